import java.util.ArrayList;
import java.util.List;

/**
 * 'Answers' and 'Details' of the document: which of several refusals counts, what a refused call and an asking one
 * leave as it was, what is left of THE TAPE, fractions, and by what all is told.
 */
public final class AnswersTest {
    private static final int LEAST = Integer.MIN_VALUE;
    private static final int MOST = Integer.MAX_VALUE;

    private interface Call {
        long on(WordRace x);
    }

    private record Asked(String name, Call call, long due) {
    }

    public static void main(String[] args) {
        refusedLeavesAllAsItWas();
        refusedForWantOfRoomLeavesAllAsItWas();
        refusedWordsLeaveAllButTheTape();
        askedLeavesAllAsItWas();
        writtenLeavesAllButThePaper();
        imageLeavesAllButTheImage();
        askedInAnyOrder();
        theFirstNamedCounts();
        faultIsAheadOfFull();
        partsOfFractions();
        toldBySidesAsTheyAre();
        toldByWordsAsTheyAre();
        Due.end();
    }

    /** Something of all, with room for more; the image is another than what there is. */
    private static WordRace some() {
        WordRace x = Due.with(2, "ab;b");
        x.plan(2, 1);
        x.player(4, 1);
        x.image();
        x.sides(3);
        Due.tell(x, "abc;ca;abb");
        Due.cast(x, "abcab");
        x.player(2, 2);
        x.plan(0, 3);
        x.list(0, 3);
        x.put(0, 2, -7);
        x.list(1, 0);
        x.write(3);
        Due.feed(x, "a2;");
        return x;
    }

    /** As much of all as can be. */
    private static WordRace full() {
        WordRace x = Due.with(3, "ab;b");
        x.image();
        Due.tell(x, "abc;ca;abb;c5");
        x.casts(40, 7);
        for (int p = 0; p < 4; p++) x.player(p + 1, p);
        for (int i = 0; i < 8; i++) x.plan(i % 3, 1 + i % 2);
        for (int list = 0; list < 3; list++) x.list(list, 12);
        x.put(1, 11, MOST);
        x.write(-1);
        for (int i = 1; i <= 60; i++) x.feed(i % 5 == 0 ? ';' : 'a');
        return x;
    }

    private static void add(List<Asked> to, long due, String name, Call... calls) {
        for (int i = 0; i < calls.length; i++) to.add(new Asked(name + " " + i, calls[i], due));
    }

    /** Of each changing call each refusal that its words name. */
    private static List<Asked> refused() {
        List<Asked> to = new ArrayList<>();
        add(to, -2, "sides, BAD", x -> x.sides(1), x -> x.sides(4), x -> x.sides(LEAST));
        add(to, -3, "sides, STATE", x -> x.sides(2));
        add(to, -2, "feed, BAD", x -> x.feed(0), x -> x.feed(128), x -> x.feed(LEAST));
        add(to, -1, "becomes, NONE", x -> x.becomes(-1, 1), x -> x.becomes(6, 1), x -> x.becomes(6, 0));
        add(to, -2, "becomes, BAD", x -> x.becomes(0, 0), x -> x.becomes(1, 111111), x -> x.becomes(2, 14));
        add(to, -2, "cast, BAD", x -> x.cast(0), x -> x.cast(4), x -> x.cast(LEAST));
        add(to, -2, "casts, BAD", x -> x.casts(0, 1), x -> x.casts(41, 1), x -> x.casts(-1, 1));
        add(to, -1, "player, NONE", x -> x.player(6, 0), x -> x.player(-1, 0), x -> x.player(0, 6), x -> x.player(0, -1));
        add(to, -1, "plan, NONE", x -> x.plan(3, 1), x -> x.plan(-2, 1), x -> x.plan(LEAST, 1));
        add(to, -2, "plan, BAD", x -> x.plan(0, 0), x -> x.plan(0, 4), x -> x.plan(1, 10), x -> x.plan(2, 3));
        add(to, -1, "write, NONE", x -> x.write(6), x -> x.write(-2), x -> x.write(LEAST));
        add(to, -1, "list, NONE", x -> x.list(4, 2), x -> x.list(-1, 2));
        add(to, -2, "list, BAD", x -> x.list(0, 13), x -> x.list(3, 13), x -> x.list(1, MOST));
        add(to, -14, "list, BELOW", x -> x.list(0, -1), x -> x.list(3, -1), x -> x.list(1, LEAST));
        add(to, -1, "put, NONE", x -> x.put(4, 0, 1), x -> x.put(-1, 0, 1));
        add(to, -11, "put, NOTHING", x -> x.put(3, 0, 1));
        add(to, -13, "put, BEYOND", x -> x.put(0, 12, 1), x -> x.put(0, -1, 1), x -> x.put(1, LEAST, 1));
        return to;
    }

    /** "What is answered so changes nothing": an object that refused is as one that was not asked. */
    private static void refusedLeavesAllAsItWas() {
        String ofSome = Look.through(some());
        String ofFull = Look.through(full());
        for (Asked asked : refused()) {
            WordRace x = some();
            Due.due(asked.name() + " of some", asked.call().on(x), asked.due());
            Due.text(asked.name() + " leaves some", Look.through(x), ofSome);
            WordRace y = full();
            Due.due(asked.name() + " of full", asked.call().on(y), asked.due());
            Due.text(asked.name() + " leaves full", Look.through(y), ofFull);
        }
        WordRace z = new WordRace();
        String ofNew = Look.at(z);
        Due.due("undo, STATE", z.undo(), -3);
        Due.text("undo leaves a new object", Look.at(z), ofNew);
        Due.text("and it is as new", Look.through(z), Look.through(new WordRace()));
    }

    /** Of "FULL", too; and 40 letters are full without a word for it. */
    private static void refusedForWantOfRoomLeavesAllAsItWas() {
        List<Asked> to = new ArrayList<>();
        add(to, -4, "feed, FULL", x -> x.feed(1), x -> x.feed('b'), x -> x.feed(127));
        add(to, -4, "cast, FULL", x -> x.cast(1), x -> x.cast(2), x -> x.cast(3));
        add(to, -4, "player, FULL", x -> x.player(0, 0), x -> x.player(5, 5));
        add(to, -4, "plan, FULL", x -> x.plan(0, 1), x -> x.plan(1, 9), x -> x.plan(2, 2));
        add(to, 40, "casts on 40", x -> x.casts(1, 3), x -> x.casts(40, 3));
        String ofFull = Look.through(full());
        for (Asked asked : to) {
            WordRace x = full();
            Due.due(asked.name(), asked.call().on(x), asked.due());
            Due.text(asked.name() + " leaves full", Look.through(x), ofFull);
        }
    }

    /** A text that tells no words, or too many, changes nothing but THE TAPE, which is empty then. */
    private static void refusedWordsLeaveAllButTheTape() {
        String[] texts = {"", "a;", "x", "abb6", "aaaaaa", "a;b;c;a;b;c;a", "a;b"};
        int[] due = {-100, -102, -100, -103, -105, -4, -4};
        for (int i = 0; i < texts.length; i++) {
            WordRace x = full();
            WordRace y = full();
            Due.due("the tape of sixty ends too early", x.words(), -160);
            Due.due("again of another", y.words(), -160);
            Due.due("words() of '" + texts[i] + "'", Due.tell(x, texts[i]), due[i]);
            Due.text("'" + texts[i] + "' leaves all else", Look.through(x), Look.through(y));
        }
    }

    /** Calls that ask, by arguments that are good and by others. */
    private static List<Asked> asked() {
        List<Asked> to = new ArrayList<>();
        for (int what = -1; what <= 7; what++) {
            int w = what;
            add(to, 0, "count", x -> x.count(w));
            add(to, 0, "of, overlaps, number, isIn", x -> x.of(0, w), x -> x.overlaps(w, 1), x -> x.number(0, w), x -> x.isIn(w, 2));
            add(to, 0, "chance, answered", x -> x.chance(w, 3, 0), x -> x.chance(2, w, 1), x -> x.answered(w, 1));
            add(to, 0, "trail, ring", x -> x.trail(w, 0), x -> x.trail(0, w), x -> x.ring(w));
            add(to, 0, "field, mean", x -> x.field(12, w, 0), x -> x.field(w, 1, 1), x -> x.mean(4 * w, 0), x -> x.mean(28, w));
            add(to, 0, "within", x -> x.within(28, w, 6), x -> x.within(12, 3, w), x -> x.within(4 * w + 4, 2, 12));
            add(to, 0, "strip, ends, seen", x -> x.strip(w), x -> x.ends(w), x -> x.seen(w, 0), x -> x.seen(1, w));
            add(to, 0, "who, were", x -> x.who(), x -> x.were(w, 1), x -> x.were(3, w));
            add(to, 0, "playerOf", x -> x.playerOf(w, 2), x -> x.playerOf(0, w));
            add(to, 0, "pick, match", x -> x.pick(0, w, 1), x -> x.pick(1, 0, w), x -> x.match(w, 1, 0), x -> x.match(0, 1, w));
            add(to, 0, "duel, odds", x -> x.duel(2, w, 5, 1), x -> x.duel(2, 3, w, 0), x -> x.odds(2, 3, 9, 4 * w, 1));
            add(to, 0, "behind", x -> x.behind(w), x -> x.behind(10 + w));
            add(to, 0, "paper, judge, get", x -> x.paper(w), x -> x.judge(w), x -> x.get(w, 1), x -> x.get(0, w));
        }
        return to;
    }

    /** "what is asked changes nothing ..". */
    private static void askedLeavesAllAsItWas() {
        String ofSome = Look.through(some());
        String ofFull = Look.through(full());
        for (Asked asked : asked()) {
            WordRace x = some();
            asked.call().on(x);
            asked.call().on(x);
            Due.text(asked.name() + " leaves some", Look.through(x), ofSome);
            WordRace y = full();
            asked.call().on(y);
            Due.text(asked.name() + " leaves full", Look.through(y), ofFull);
        }
    }

    /** ".. but THE PAPER". */
    private static void writtenLeavesAllButThePaper() {
        for (int word = -1; word < 5; word++) {
            WordRace x = some();
            WordRace y = some();
            x.write(word);
            x.write(3);
            Due.text("write(" + word + ") leaves all else", Look.through(x), Look.through(y));
        }
    }

    private static void imageLeavesAllButTheImage() {
        WordRace x = some();
        String before = Look.at(x);
        Due.due("image()", x.image(), 5);
        Due.text("image() leaves all else", Look.at(x), before);
        x.undo();
        Due.text("undo() at once, too", Look.at(x), before);
    }

    /** What one call asked before changes no answer of another. */
    private static void askedInAnyOrder() {
        List<Asked> all = asked();
        int size = all.size();
        long[] alone = new long[size];
        for (int i = 0; i < size; i++) alone[i] = all.get(i).call().on(some());
        WordRace x = some();
        WordRace y = some();
        for (int i = 0; i < size; i++) {
            if (i % 300 == 0) {
                x = some();
                y = some();
            }
            Due.due(all.get(i).name() + " forth", all.get(i).call().on(x), alone[i]);
            int back = size - 1 - i;
            Due.due(all.get(back).name() + " back", all.get(back).call().on(y), alone[back]);
        }
    }

    /** "the first that a call's words name". */
    private static void theFirstNamedCounts() {
        WordRace x = full();
        Due.due("feed, BAD ahead of FULL", x.feed(0), -2);
        Due.due("feed, BAD ahead of FULL", x.feed(128), -2);
        Due.due("becomes, NONE ahead of BAD", x.becomes(6, 0), -1);
        Due.due("becomes, NONE ahead of BAD", x.becomes(-1, 4), -1);
        Due.due("within, NONE ahead of BAD", x.within(64, 0, 13), -1);
        Due.due("within, NONE ahead of BAD", x.within(28, 0, -1), -1);
        Due.due("within, NONE ahead of BAD", x.within(62, 0, 3), -1);
        Due.due("within, NONE ahead of STATE", x.within(3, 2, 3), -1);
        Due.due("within, BAD ahead of STATE", x.within(63, 0, 3), -2);
        Due.due("within, BAD ahead of STATE", x.within(3, 0, 13), -2);
        Due.due("within, STATE", x.within(3, 0, 12), -3);
        Due.due("cast, BAD ahead of FULL", x.cast(0), -2);
        Due.due("cast, BAD ahead of FULL", x.cast(4), -2);
        Due.due("player, NONE ahead of FULL", x.player(6, 0), -1);
        Due.due("player, NONE ahead of FULL", x.player(0, 6), -1);
        Due.due("duel, NONE ahead of STATE", x.duel(0, 1, 0, 2), -1);
        Due.due("duel, NONE ahead of STATE", x.duel(0, 0, 0, 0), -1);
        Due.due("duel, STATE", x.duel(0, 1, 0, 0), -3);
        Due.due("plan, NONE ahead of BAD and FULL", x.plan(3, 0), -1);
        Due.due("plan, BAD ahead of FULL", x.plan(1, 0), -2);
        Due.due("plan, FULL", x.plan(1, 1), -4);
        Due.due("judge, NONE", x.judge(4), -1);
        Due.due("judge, NOTHING", x.judge(3), -11);
        Due.due("list, NONE ahead of BAD", x.list(4, 13), -1);
        Due.due("list, NONE ahead of BELOW", x.list(4, -1), -1);
        Due.due("put, NONE ahead of BEYOND", x.put(4, 99, 0), -1);
        Due.due("put, NOTHING ahead of BEYOND", x.put(3, 99, 0), -11);
        Due.due("put, BEYOND", x.put(2, 99, 0), -13);
    }

    /** "-100 less a FAULT (ahead of FULL)". */
    private static void faultIsAheadOfFull() {
        WordRace x = Due.with(2, "a;b;ab;ba;aa;bb");
        String[] texts = {"", ";", "a;", "a;b;c", "ax", "a6", "a;a;a;a;a;a;a;", "a;a;a;a;a;a;a;x", "a;a;a;a;a;a;a6"};
        int[] places = {0, 0, 2, 4, 1, 1, 14, 14, 13};
        for (int i = 0; i < texts.length; i++) {
            Due.due("words() of '" + texts[i] + "' on six", Due.tell(x, texts[i]), -100 - places[i]);
            Due.due("words() of '" + texts[i] + "' on none", Due.tell(new WordRace(), texts[i]), -100 - places[i]);
        }
        Due.due("no fault, no room", Due.tell(x, "a"), -4);
        Due.due("no fault, seven on none", Due.tell(new WordRace(), "a;a;a;a;a;a;a"), -4);
    }

    /** "Of fractions part 0 is above, 1 below the line, in lowest terms (0: 0 by 1)"; no other part. */
    private static void partsOfFractions() {
        WordRace x = Due.with(2, "abb;bbb;aab;a5");
        x.player(0, 0);
        x.player(0, 1);
        int[] parts = {LEAST, -2, -1, 2, 3, 256, MOST};
        for (int part : parts) {
            Due.due("chance part " + part, x.chance(0, 1, part), Due.NO);
            Due.due("answered part " + part, x.answered(0, part), Due.NO);
            Due.due("field part " + part, x.field(3, 0, part), Due.NO);
            Due.due("mean part " + part, x.mean(3, part), Due.NO);
            Due.due("match part " + part, x.match(0, 1, part), Due.NO);
            Due.due("odds part " + part, x.odds(0, 1, 5, 4, part), Due.NO);
        }
        Due.fraction("14 by 16", x.chance(0, 1, 0), x.chance(0, 1, 1), 7, 8);
        Due.fraction("6 by 8", x.answered(2, 0), x.answered(2, 1), 3, 4);
        Due.fraction("14 by 16 of a field", x.field(3, 0, 0), x.field(3, 0, 1), 7, 8);
        Due.fraction("14 by 16 of a match", x.match(0, 1, 0), x.match(0, 1, 1), 7, 8);
        WordRace y = Due.with(2, "a5;bb");
        Due.fraction("0 by 30", y.odds(0, 1, 386, 30, 0), y.odds(0, 1, 386, 30, 1), 0, 1);
        Due.fraction("30 by 30", y.odds(1, 0, 386, 30, 0), y.odds(1, 0, 386, 30, 1), 1, 1);
        Due.fraction("a whole mean", Due.with(2, "aa;bb").mean(3, 0), Due.with(2, "aa;bb").mean(3, 1), 3, 1);
    }

    /** "All is told by SIDES .. as they are when it is asked." */
    private static void toldBySidesAsTheyAre() {
        WordRace x = Due.with(2, "abb;bb;a");
        x.player(3, 0);
        x.player(4, 1);
        Due.cast(x, "bab");
        x.plan(0, 3);
        x.plan(2, 1);
        long[] two = {8, 2, 3, 6, 15, 112, 211, 3, 3, 2, 3, 2, duelOf(2)};
        long[] three = {27, 3, 5, 12, 65, 332, 133, 7, 12, 5, 4, 3, duelOf(3)};
        toldIs(x, two);
        x.sides(3);
        toldIs(x, three);
        x.sides(2);
        toldIs(x, two);
    }

    /** How many letters are drawn by 1 till a or bb ends. */
    private static int duelOf(int sides) {
        String row = Due.drawn(sides, 1, 60);
        return Math.min(row.indexOf("a") + 1, row.indexOf("bb") + 2);
    }

    private static void toldIs(WordRace x, long[] due) {
        long[] got = {x.of(0, 2), x.answered(0, 0), x.answered(0, 1), x.number(1, 1), x.within(4, 2, 4), x.pick(0, 1, 0),
            x.pick(0, 1, 1), x.were(2, 2), x.mean(6, 0), x.mean(6, 1), x.behind(0), x.count(3), x.duel(2, 1, 1, 1)};
        for (int i = 0; i < due.length; i++) Due.due("told by SIDES " + x.count(3) + ", " + i, got[i], due[i]);
    }

    /** "All is told by .. WORDS as they are when it is asked." */
    private static void toldByWordsAsTheyAre() {
        WordRace x = Due.with(2, "ab;bb");
        x.player(1, 0);
        x.player(4, 1);
        Due.cast(x, "abba");
        x.list(0, 2);
        x.put(0, 0, 1);
        x.put(0, 1, 2);
        x.write(0);
        Due.due("who, ab", x.who(), 0);
        Due.due("turned ab", x.pick(0, 1, 0), 21);
        Due.due("judged", x.judge(0), -5);
        Due.due("becomes", x.becomes(0, 22121), 12);
        Due.due("who, now", x.who(), 1);
        Due.due("turned, now", x.pick(0, 1, 0), 12122);
        Due.due("the answer has as many letters, now", x.pick(0, 1, 1) > 11110 ? 1 : 0, 1);
        Due.due("judged, now", x.judge(0), 0);
        Due.due("behind, now", x.behind(10), -5);
        Due.due("were, now", x.were(0, 0), 0);
        Due.due("the player has the same word", x.playerOf(0, 1), 0);
        Due.text("the paper stays as it was written", Due.paper(x), "ab");
        Due.due("the strip stays as it was thrown", x.count(1), 4);
    }
}
