/** Each sentence of the document that names an edge of LISTS, THE IMAGE and counts: 'Terms' 2, promises 35 to 41. */
public final class EdgesOfListsTest {
    private static final int LEAST = Integer.MIN_VALUE;
    private static final int MOST = Integer.MAX_VALUE;
    private static final int[] NO_LISTS = {LEAST, -1, 4, 5, 256, MOST};

    public static void main(String[] args) {
        listsAreFour();
        listsHoldNothing();
        listHasNoneToTwelve();
        listIsBadOrBelow();
        listBecomesAllNought();
        listsAreApart();
        putIsBeyond();
        putTakesAnyInt();
        putIsWhatIsNamedFirst();
        getIsNo();
        judgeOfNothing();
        judgeOfAnEmptyList();
        judgeOfWordsThatAreNotThere();
        judgeOfWordsThatEndNowhere();
        judgeTellsTheFirstOtherwise();
        judgeGoesByTheStrip();
        imageOfNothing();
        imageHoldsAll();
        imageHoldsNotTheRest();
        imageHoldsRowsAsTheyWere();
        imageIsTheLatest();
        imageStaysBehindUndo();
        imageIsNotTheThingItself();
        undoWithoutImage();
        countIsBad();
        countHasEdges();
        Due.end();
    }

    /** "LISTS 0 .. 3"; "NONE". */
    private static void listsAreFour() {
        WordRace x = new WordRace();
        for (int list : NO_LISTS) {
            Due.due("list(" + list + ", 3)", x.list(list, 3), -1);
            Due.due("list(" + list + ", 13), NONE ahead of BAD", x.list(list, 13), -1);
            Due.due("list(" + list + ", -1), NONE ahead of BELOW", x.list(list, -1), -1);
            Due.due("put(" + list + ", 0, 1)", x.put(list, 0, 1), -1);
            Due.due("get(" + list + ", 0)", x.get(list, 0), Due.NO);
            Due.due("judge(" + list + ")", x.judge(list), -1);
        }
        for (int list = 0; list < 4; list++) Due.due("list(" + list + ", 1)", x.list(list, 1), 1);
    }

    /** "hold nothing (at first)"; "NOTHING (-11): none is held". */
    private static void listsHoldNothing() {
        WordRace x = new WordRace();
        int[] places = {LEAST, -1, 0, 11, 12, MOST};
        for (int list = 0; list < 4; list++) {
            Due.due("judge(" + list + ")", x.judge(list), -11);
            for (int i : places) {
                Due.due("put(" + list + ", " + i + ", 1)", x.put(list, i, 1), -11);
                Due.due("get(" + list + ", " + i + ")", x.get(list, i), Due.NO);
            }
        }
        Due.due("list 1 held", x.list(1, 0), 1);
        for (int list = 0; list < 4; list++) Due.due("put to " + list, x.put(list, 0, 1), list == 1 ? -13 : -11);
    }

    /** "a row of 0 .. 12 ints". */
    private static void listHasNoneToTwelve() {
        for (int n = 0; n <= 12; n++) {
            WordRace x = new WordRace();
            Due.due("list(2, " + n + ")", x.list(2, n), 1);
            for (int i = 0; i < n; i++) Due.due("place " + i + " of " + n, x.get(2, i), 0);
            for (int i = n; i < 14; i++) {
                Due.due("place " + i + " of " + n, x.get(2, i), Due.NO);
                Due.due("put to place " + i + " of " + n, x.put(2, i, 1), -13);
            }
            if (n > 0) Due.due("put to the last of " + n, x.put(2, n - 1, 5), 1);
            if (n > 0) Due.due("the last of " + n, x.get(2, n - 1), 5);
        }
    }

    /** "BAD: n above 12; BELOW." */
    private static void listIsBadOrBelow() {
        WordRace x = new WordRace();
        int[] above = {13, 14, 64, 256 + 3, MOST};
        int[] below = {LEAST, -256 + 3, -12, -2, -1};
        for (int turn = 0; turn < 2; turn++) {
            for (int n : above) Due.due("list(0, " + n + ")", x.list(0, n), -2);
            for (int n : below) Due.due("list(0, " + n + ")", x.list(0, n), -14);
            Due.due("it stays", x.judge(0), turn == 0 ? -11 : 1);
            x.list(0, 12);
            x.put(0, 0, -5);
        }
    }

    /** "A LIST becomes a row of n ints, all 0": whatever it was. */
    private static void listBecomesAllNought() {
        WordRace x = new WordRace();
        x.list(3, 12);
        for (int i = 0; i < 12; i++) x.put(3, i, i + 1);
        int[] sizes = {12, 5, 12, 0, 12, 1};
        for (int n : sizes) {
            Due.due("list(3, " + n + ")", x.list(3, n), 1);
            for (int i = 0; i < 12; i++) Due.due("place " + i + " of " + n, x.get(3, i), i < n ? 0 : Due.NO);
            for (int i = 0; i < n; i++) x.put(3, i, -9);
        }
    }

    private static void listsAreApart() {
        WordRace x = new WordRace();
        for (int list = 0; list < 4; list++) {
            x.list(list, 3 * list + 1);
            x.put(list, 0, 100 + list);
            x.put(list, 3 * list, 200 + list);
        }
        for (int list = 0; list < 4; list++) {
            Due.due("the first of " + list, x.get(list, 0), list == 0 ? 200 : 100 + list);
            Due.due("the last of " + list, x.get(list, 3 * list), 200 + list);
            Due.due("behind the last of " + list, x.get(list, 3 * list + 1), Due.NO);
        }
    }

    /** "BEYOND (-13): no such place". */
    private static void putIsBeyond() {
        WordRace x = new WordRace();
        x.list(0, 5);
        int[] beyond = {LEAST, -12, -1, 5, 6, 11, 12, 13, 256, MOST};
        for (int i : beyond) Due.due("put(0, " + i + ", 1)", x.put(0, i, 1), -13);
        for (int i = 0; i < 5; i++) Due.due("it stays", x.get(0, i), 0);
        x.list(0, 12);
        for (int i = 0; i < 12; i++) Due.due("it stays", x.get(0, i), 0);
    }

    /** "Place i of a LIST becomes v": any int. */
    private static void putTakesAnyInt() {
        WordRace x = new WordRace();
        x.list(0, 12);
        int[] values = {LEAST, LEAST + 1, -100, -14, -11, -5, -1, 0, 1, 127, MOST - 1, MOST};
        for (int i = 0; i < 12; i++) Due.due("put(0, " + i + ", " + values[i] + ")", x.put(0, i, values[i]), 1);
        for (int i = 0; i < 12; i++) Due.due("get(0, " + i + ")", x.get(0, i), values[i]);
    }

    /** "NONE; NOTHING; BEYOND." */
    private static void putIsWhatIsNamedFirst() {
        WordRace x = new WordRace();
        x.list(1, 2);
        Due.due("no list, no place", x.put(4, 99, 1), -1);
        Due.due("nothing held, no place", x.put(0, 99, 1), -11);
        Due.due("no place", x.put(1, 99, 1), -13);
        Due.due("no list, no place", x.put(-1, -1, 1), -1);
        Due.due("nothing held, no place", x.put(2, -1, 1), -11);
        Due.due("no place", x.put(1, -1, 1), -13);
    }

    /** "NO: no such LIST, nothing there, no such place." */
    private static void getIsNo() {
        WordRace x = new WordRace();
        x.list(1, 2);
        x.list(2, 0);
        int[] places = {LEAST, -1, 2, 3, 12, MOST};
        for (int i : places) Due.due("get(1, " + i + ")", x.get(1, i), Due.NO);
        for (int i : places) Due.due("get(2, " + i + ")", x.get(2, i), Due.NO);
        Due.due("get(0, 0)", x.get(0, 0), Due.NO);
        Due.due("get(2, 0)", x.get(2, 0), Due.NO);
        Due.due("get(4, 0)", x.get(4, 0), Due.NO);
        Due.due("get(-1, 0)", x.get(-1, 0), Due.NO);
        x.put(1, 0, LEAST);
        Due.due("the least int is not NO", x.get(1, 0), LEAST);
    }

    private static void judgeOfNothing() {
        WordRace x = Due.with(2, "a;b");
        for (int list = 0; list < 4; list++) Due.due("judge(" + list + ")", x.judge(list), -11);
        for (int list : NO_LISTS) Due.due("judge(" + list + ")", x.judge(list), -1);
    }

    /** "-5: none": a list of no places tells nothing that is otherwise. */
    private static void judgeOfAnEmptyList() {
        WordRace x = Due.with(2, "a;b");
        x.list(0, 0);
        Due.due("nothing ends", x.judge(0), -5);
        Due.cast(x, "ab");
        Due.due("both end", x.judge(0), -5);
        Due.due("no words", judgeOfNone(), -5);
    }

    private static int judgeOfNone() {
        WordRace x = new WordRace();
        x.list(0, 0);
        return x.judge(0);
    }

    /** "(-5 for one that .. isn't there)". */
    private static void judgeOfWordsThatAreNotThere() {
        WordRace x = new WordRace();
        x.list(0, 12);
        for (int i = 0; i < 12; i++) {
            Due.due("place " + i + " is 0", x.judge(0), i);
            x.put(0, i, -5);
        }
        Due.due("all are -5", x.judge(0), -5);
        Due.tell(x, "a;b;aa;ab;ba;bb");
        Due.due("words that end nowhere are -5, too", x.judge(0), -5);
        x.cast(1);
        Due.due("a ends at 0", x.judge(0), 0);
        x.put(0, 0, 0);
        Due.due("as it is told now", x.judge(0), -5);
        x.put(0, 6, 0);
        Due.due("the seventh isn't there", x.judge(0), 6);
    }

    private static void judgeOfWordsThatEndNowhere() {
        WordRace x = Due.with(2, "a;bb;b");
        Due.cast(x, "ab");
        x.list(0, 3);
        x.put(0, 0, 0);
        x.put(0, 2, 1);
        int[] wrong = {LEAST, -11, -4, -1, 0, 1, 2, MOST};
        for (int v : wrong) {
            x.put(0, 1, v);
            Due.due("bb told at " + v, x.judge(0), 1);
        }
        x.put(0, 1, -5);
        Due.due("bb told nowhere", x.judge(0), -5);
    }

    /** "the first place that is otherwise". */
    private static void judgeTellsTheFirstOtherwise() {
        WordRace x = Due.with(2, "a;b;aa;ab;ba;bb");
        Due.cast(x, "abbaa");
        int[] due = {0, 1, 4, 1, 3, 2, -5, -5, -5, -5, -5, -5};
        for (int wrong = 11; wrong >= 0; wrong--) {
            x.list(2, 12);
            for (int i = 0; i < 12; i++) x.put(2, i, i < wrong ? due[i] : 40);
            Due.due("from " + wrong + " on otherwise", x.judge(2), wrong);
        }
        for (int i = 0; i < 12; i++) x.put(2, i, due[i]);
        Due.due("none otherwise", x.judge(2), -5);
        for (int n = 0; n < 12; n++) {
            x.list(1, n);
            for (int i = 0; i < n; i++) x.put(1, i, due[i]);
            Due.due("a list of " + n, x.judge(1), -5);
        }
    }

    private static void judgeGoesByTheStrip() {
        WordRace x = Due.with(2, "ab;b");
        x.list(0, 2);
        x.put(0, 0, 39);
        x.put(0, 1, 39);
        for (int i = 0; i < 39; i++) x.cast(1);
        Due.due("ahead of the last letter", x.judge(0), 0);
        x.cast(2);
        Due.due("behind the last letter", x.judge(0), -5);
        x.wipe();
        Due.due("wiped", x.judge(0), 0);
    }

    /** An image of a new object. */
    private static void imageOfNothing() {
        WordRace x = new WordRace();
        Due.due("image()", x.image(), 0);
        String before = Look.board(x);
        x.sides(3);
        Due.tell(x, "a;b;c;ab;bc;ca");
        x.casts(40, 7);
        for (int p = 0; p < 4; p++) x.player(p, p);
        for (int i = 0; i < 8; i++) x.plan(0, 1);
        Due.due("undo()", x.undo(), 0);
        Due.text("as it was", Look.board(x), before);
    }

    private static WordRace filled() {
        WordRace x = Due.with(3, "abc;ca;b;c;ab;bc");
        x.casts(40, 7);
        for (int p = 0; p < 4; p++) x.player(p + 2, p);
        for (int i = 0; i < 8; i++) x.plan(i % 3, 1 + i % 2);
        return x;
    }

    /** "SIDES, WORDS, THE STRIP, PLAYERS, the PLAN": each by itself, and in each the change is undone. */
    private static void imageHoldsAll() {
        String due = Look.board(filled());
        WordRace x = filled();
        Due.due("image()", x.image(), 6);
        Due.text("it changes nothing", Look.board(x), due);
        for (int w = 0; w < 6; w++) {
            x.becomes(w, 11111);
            Due.due("a word back", x.undo(), 6);
        }
        Due.text("the words", Look.board(x), due);
        WordRace y = filled();
        y.image();
        y.wipe();
        Due.due("the strip back", y.undo(), 6);
        y.plan(-1, 0);
        Due.due("the plan back", y.undo(), 6);
        Due.text("the strip, the plan", Look.board(y), due);
        WordRace z = Due.with(2, "a");
        z.player(1, 0);
        z.image();
        String small = Look.board(z);
        z.sides(3);
        Due.due("SIDES back", z.undo(), 1);
        Due.text("the sides", Look.board(z), small);
        z.player(2, 0);
        Due.due("players back", z.undo(), 1);
        Due.text("the players", Look.board(z), small);
        Due.tell(z, "b;ab");
        Due.due("words back", z.undo(), 1);
        z.cast(1);
        Due.due("letters back", z.undo(), 1);
        z.plan(0, 1);
        Due.due("rows back", z.undo(), 1);
        Due.text("all", Look.board(z), small);
    }

    /** Rows of other kinds and values came in the place of those of the image. */
    private static void imageHoldsRowsAsTheyWere() {
        WordRace x = Due.with(3, "a;b;c");
        x.plan(0, 2);
        x.plan(0, 1);
        x.plan(2, 1);
        x.image();
        int[] due = {-5, 1, 0};
        for (int turn = 0; turn < 3; turn++) {
            for (int w = 0; w < 3; w++) Due.due("behind(" + (10 + w) + ")", x.behind(10 + w), due[w]);
            x.plan(-1, 0);
            for (int i = 0; i < 8; i++) x.plan(turn, turn == 0 ? 3 : 2);
            Due.due("otherwise", x.behind(0), turn == 0 ? 8 : 0);
            Due.due("undo()", x.undo(), 3);
            Due.due("as many rows", x.count(6), 3);
        }
        for (int w = 0; w < 3; w++) Due.due("behind(" + (10 + w) + ")", x.behind(10 + w), due[w]);
    }

    /** "(not LISTS, THE TAPE, THE PAPER)". */
    private static void imageHoldsNotTheRest() {
        WordRace x = Due.with(2, "ab;b");
        x.list(0, 2);
        x.put(0, 1, 7);
        x.write(0);
        Due.feed(x, "b");
        x.image();
        x.list(0, 1);
        x.put(0, 0, 8);
        x.list(3, 12);
        x.write(1);
        Due.feed(x, "a2");
        Due.due("undo()", x.undo(), 2);
        Due.due("the list stays", x.get(0, 0), 8);
        Due.due("the list stays short", x.get(0, 1), Due.NO);
        Due.due("the other list stays", x.get(3, 11), 0);
        Due.text("the paper stays", Due.paper(x), "b");
        Due.due("the tape stays", x.count(4), 3);
        Due.due("words()", x.words(), 3);
        Due.due("as they were fed", x.of(2, 0), 211);
        Due.due("undo()", x.undo(), 2);
        Due.due("the tape stays empty", x.count(4), 0);
    }

    /** "THE IMAGE is taken": a later one stands for the one ahead of it. */
    private static void imageIsTheLatest() {
        WordRace x = Due.with(2, "a");
        Due.due("the first", x.image(), 1);
        Due.tell(x, "b;ab");
        Due.due("the second", x.image(), 3);
        Due.tell(x, "ba");
        Due.due("back to the second", x.undo(), 3);
        Due.due("and again", x.undo(), 3);
    }

    private static void imageStaysBehindUndo() {
        WordRace x = Due.with(2, "a");
        x.image();
        for (int i = 0; i < 5; i++) {
            Due.due("becomes", x.becomes(0, 22), 1);
            Due.due("cast", x.cast(1), 1);
            Due.due("player", x.player(0, 0), 0);
            Due.due("undo()", x.undo(), 1);
            Due.due("no player", x.count(2), 0);
        }
    }

    /** What is done behind undo() does not change what the image holds. */
    private static void imageIsNotTheThingItself() {
        WordRace x = filled();
        x.image();
        String due = Look.board(x);
        x.undo();
        x.becomes(3, 111);
        x.wipe();
        x.cast(1);
        x.plan(-1, 0);
        x.plan(1, 9);
        x.undo();
        Due.text("as the image", Look.board(x), due);
    }

    /** "STATE: there is none." */
    private static void undoWithoutImage() {
        WordRace x = new WordRace();
        Due.due("of a new object", x.undo(), -3);
        WordRace y = filled();
        String due = Look.at(y);
        Due.due("of a full one", y.undo(), -3);
        Due.text("nothing changed", Look.at(y), due);
    }

    /** "BAD." */
    private static void countIsBad() {
        WordRace x = filled();
        int[] bad = {LEAST, -2, -1, 7, 8, 256, MOST};
        for (int what : bad) Due.due("count(" + what + ")", x.count(what), -2);
    }

    /** Of nothing, and of as many as can be. */
    private static void countHasEdges() {
        WordRace x = new WordRace();
        int[] least = {0, 0, 0, 2, 0, 0, 0};
        for (int what = 0; what < 7; what++) Due.due("least count(" + what + ")", x.count(what), least[what]);
        WordRace y = filled();
        for (int i = 0; i < 60; i++) y.feed(1);
        y.write(-1);
        int[] most = {6, 40, 4, 3, 60, 40, 8};
        for (int what = 0; what < 7; what++) Due.due("most count(" + what + ")", y.count(what), most[what]);
    }
}
