/** Each sentence of the document that names an edge of the PLAN and THE PAPER: 'Terms' 2, promises 31 to 34. */
public final class EdgesOfPlansTest {
    private static final int LEAST = Integer.MIN_VALUE;
    private static final int MOST = Integer.MAX_VALUE;

    public static void main(String[] args) {
        planHasEightRows();
        planIsNone();
        planIsBad();
        planIsWhatIsNamedFirst();
        planIsEmptyWhateverTheOtherIs();
        letterThatSidesHaveNot();
        letterBehindForty();
        lettersGo();
        lettersAreNotSoMany();
        lettersArePutOneOn();
        rowsAreDoneInTheirOrder();
        behindAnEmptyPlan();
        behindLeavesTheStrip();
        behindOfWords();
        behindIsNone();
        writtenWordsOfOneToFive();
        writtenStripOfNoneToForty();
        writeIsNone();
        paperHoldsTheLatest();
        paperHoldsSigns();
        paperIsNone();
        Due.end();
    }

    /** "ROWS told by hand (8 at most)"; "FULL". */
    private static void planHasEightRows() {
        WordRace x = new WordRace();
        for (int i = 1; i <= 8; i++) Due.due("row " + i, x.plan(0, 1), i);
        for (int what = 0; what < 3; what++) Due.due("a ninth", x.plan(what, 1), -4);
        Due.due("eight", x.count(6), 8);
        Due.due("eight letters", x.behind(0), 8);
        Due.due("emptied", x.plan(-1, 1), 0);
        for (int i = 1; i <= 8; i++) Due.due("row " + i + " anew", x.plan(2, 2), i);
        Due.due("a ninth again", x.plan(2, 2), -4);
    }

    /** "NONE: what". */
    private static void planIsNone() {
        WordRace x = new WordRace();
        int[] whats = {LEAST, -3, -2, 3, 4, 255, MOST};
        for (int what : whats) for (int v = 0; v < 3; v++) Due.due("plan(" + what + ", " + v + ")", x.plan(what, v), -1);
        Due.due("no rows came", x.count(6), 0);
    }

    /** "BAD: v (by 0 1 .. 3; by 1 1 .. 9; by 2 1, 2)", whatever SIDES are. */
    private static void planIsBad() {
        int[] most = {3, 9, 2};
        for (int sides = 2; sides <= 3; sides++) {
            WordRace x = Due.with(sides, "");
            for (int what = 0; what < 3; what++) {
                int[] bad = {LEAST, -1, 0, most[what] + 1, most[what] + 2, 256 + 1, MOST};
                for (int v : bad) Due.due("plan(" + what + ", " + v + ")", x.plan(what, v), -2);
                Due.due("no rows came", x.count(6), 0);
                for (int v = 1; v <= most[what]; v++) {
                    Due.due("plan(" + what + ", " + v + ")", x.plan(what, v), 1);
                    x.plan(-1, 0);
                }
            }
        }
    }

    /** "the first that a call's words name": NONE, BAD, FULL. */
    private static void planIsWhatIsNamedFirst() {
        WordRace x = new WordRace();
        for (int i = 0; i < 8; i++) x.plan(1, 9);
        Due.due("NONE ahead of BAD and FULL", x.plan(3, 0), -1);
        Due.due("NONE ahead of FULL", x.plan(-2, 1), -1);
        Due.due("BAD ahead of FULL", x.plan(0, 4), -2);
        Due.due("BAD ahead of FULL", x.plan(1, 10), -2);
        Due.due("BAD ahead of FULL", x.plan(2, 3), -2);
        Due.due("FULL", x.plan(1, 9), -4);
    }

    /** "(what -1: it is empty then, 0, whatever the other is)". */
    private static void planIsEmptyWhateverTheOtherIs() {
        WordRace x = new WordRace();
        int[] values = {LEAST, -1, 0, 1, 9, 10, MOST};
        for (int v : values) {
            x.plan(0, 1);
            x.plan(0, 2);
            Due.due("plan(-1, " + v + ")", x.plan(-1, v), 0);
            Due.due("empty", x.count(6), 0);
            Due.due("nothing is done", x.behind(0), 0);
            Due.due("of none", x.plan(-1, v), 0);
        }
        for (int i = 0; i < 8; i++) x.plan(1, 1);
        Due.due("of eight", x.plan(-1, -1), 0);
        Due.due("the first row anew", x.plan(0, 3), 1);
    }

    private static void behind(WordRace x, int size, int who, int... firsts) {
        Due.due("behind(0)", x.behind(0), size);
        Due.due("behind(1)", x.behind(1), who);
        for (int w = 0; w < firsts.length; w++) Due.due("behind(" + (10 + w) + ")", x.behind(10 + w), firsts[w]);
    }

    /** "(nothing, if SIDES has none such ..)": by SIDES as they are when it is asked. */
    private static void letterThatSidesHaveNot() {
        WordRace x = Due.with(2, "a;b");
        x.plan(0, 3);
        behind(x, 0, -5, -5, -5);
        x.plan(0, 2);
        behind(x, 1, 1, -5, 0);
        x.sides(3);
        behind(x, 2, 1, -5, 1);
        x.plan(2, 1);
        behind(x, 2, 0, 0, -5);
        x.sides(2);
        behind(x, 1, 0, 0, -5);
    }

    /** "(nothing, if .. there are 40)": also when the forty are there in thought alone. */
    private static void letterBehindForty() {
        WordRace x = Due.with(2, "b;ab");
        for (int i = 0; i < 39; i++) x.cast(1);
        x.plan(0, 1);
        behind(x, 40, -5, -5, -5);
        x.plan(0, 2);
        behind(x, 40, -5, -5, -5);
        x.plan(1, 1);
        x.plan(0, 2);
        behind(x, 40, 1, 39, 39);
        x.plan(-1, 0);
        x.cast(1);
        x.plan(0, 2);
        behind(x, 40, -5, -5, -5);
        x.plan(2, 1);
        behind(x, 40, 0, 0, -5);
    }

    /** "the last v LETTERS (1 .. 9) go". */
    private static void lettersGo() {
        for (int v = 1; v <= 9; v++) {
            WordRace x = Due.with(2, "b;a");
            for (int i = 0; i < 40; i++) x.cast(i == 39 - v ? 2 : 1);
            x.plan(1, v);
            behind(x, 40 - v, 1, 39 - v, 0);
            x.plan(1, 1);
            behind(x, 39 - v, 1, -5, 0);
        }
    }

    /** "(all, if there are not so many)". */
    private static void lettersAreNotSoMany() {
        for (int there = 0; there < 10; there++) {
            for (int v = 1; v <= 9; v++) {
                WordRace x = Due.with(2, "a");
                for (int i = 0; i < there; i++) x.cast(1);
                x.plan(1, v);
                int left = Math.max(0, there - v);
                behind(x, left, left > 0 ? 0 : -5, left > 0 ? 0 : -5);
                x.plan(0, 1);
                behind(x, left + 1, 0, 0);
            }
        }
    }

    /** "each LETTER is put one on, v times (1, 2)": the last of SIDES becomes a. */
    private static void lettersArePutOneOn() {
        int[][] two = {{0, 1}, {1, 0}, {0, 1}};
        for (int v = 0; v <= 2; v++) {
            WordRace x = Due.with(2, "a;b");
            Due.cast(x, "ab");
            if (v > 0) x.plan(2, v);
            behind(x, 2, v % 2, two[v]);
        }
        int[][] three = {{0, 1, 2}, {2, 0, 1}, {1, 2, 0}};
        for (int v = 0; v <= 2; v++) {
            WordRace x = Due.with(3, "a;b;c");
            Due.cast(x, "abc");
            if (v > 0) x.plan(2, v);
            behind(x, 3, v, three[v]);
        }
        WordRace y = Due.with(3, "a;b;c");
        y.plan(2, 2);
        behind(y, 0, -5, -5, -5, -5);
    }

    private static void rowsAreDoneInTheirOrder() {
        WordRace x = Due.with(2, "ba;ab;b");
        x.cast(1);
        x.plan(0, 2);
        x.plan(2, 1);
        behind(x, 2, 2, 1, -5, 0);
        x.plan(-1, 0);
        x.plan(2, 1);
        x.plan(0, 2);
        behind(x, 2, 2, -5, -5, 0);
        x.plan(-1, 0);
        x.plan(1, 1);
        x.plan(0, 2);
        behind(x, 1, 2, -5, -5, 0);
        x.plan(-1, 0);
        x.plan(0, 2);
        x.plan(1, 1);
        behind(x, 1, -5, -5, -5, -5);
    }

    private static void behindAnEmptyPlan() {
        WordRace x = Due.with(2, "ab;ba");
        behind(x, 0, -5, -5, -5);
        Due.cast(x, "aba");
        behind(x, 3, 0, 1, 2);
        x.casts(40, 1);
        Due.due("of forty", x.behind(0), 40);
    }

    /** "done to THE STRIP in thought". */
    private static void behindLeavesTheStrip() {
        WordRace x = Due.with(2, "ab;bb");
        Due.cast(x, "ab");
        x.plan(2, 1);
        x.plan(0, 2);
        x.plan(0, 2);
        for (int i = 0; i < 3; i++) behind(x, 4, 0, 2, 3);
        Due.due("as many letters", x.count(1), 2);
        Due.due("the first", x.strip(0), 1);
        Due.due("the second", x.strip(1), 2);
        Due.due("who", x.who(), 0);
        Due.due("as many rows", x.count(6), 3);
    }

    /** "10 and w FIRST of WORD w (10 .. 15; NOT: it ENDS nowhere)". */
    private static void behindOfWords() {
        WordRace x = Due.with(2, "a;b;aa;ab;ba;bb");
        for (int w = 0; w < 6; w++) Due.due("in none, behind(" + (10 + w) + ")", x.behind(10 + w), -5);
        Due.cast(x, "aabb");
        x.plan(0, 1);
        int[] due = {0, 2, 1, 2, 4, 3};
        for (int w = 0; w < 6; w++) Due.due("behind(" + (10 + w) + ")", x.behind(10 + w), due[w]);
        Due.due("behind(16)", x.behind(16), -1);
    }

    /** "NONE: what; no such WORD." */
    private static void behindIsNone() {
        String[] texts = {"a", "a;b", "a;b;aa", "a;b;aa;ab", "a;b;aa;ab;ba", "a;b;aa;ab;ba;bb"};
        int[] whats = {LEAST, LEAST + 9, LEAST + 10, -10, -1, 2, 3, 4, 5, 8, 9, 16, 17, 20, 266, MOST};
        for (int words = 0; words <= 6; words++) {
            WordRace x = words == 0 ? new WordRace() : Due.with(2, texts[words - 1]);
            for (int what : whats) Due.due("behind(" + what + ") of " + words, x.behind(what), -1);
            for (int w = 0; w < 6; w++) Due.due("behind(" + (10 + w) + ") of " + words, x.behind(10 + w), w < words ? -5 : -1);
            Due.due("behind(0)", x.behind(0), 0);
            Due.due("behind(1)", x.behind(1), -5);
        }
    }

    /** "WRITTEN is a WORD .. by its letters"; "how many bytes." */
    private static void writtenWordsOfOneToFive() {
        WordRace x = Due.with(3, "c;ab;cba;a3b;abcab;b5");
        String[] due = {"c", "ab", "cba", "aaab", "abcab", "bbbbb"};
        for (int w = 0; w < 6; w++) {
            Due.due("write(" + w + ")", x.write(w), due[w].length());
            Due.text("written", Due.paper(x), due[w]);
            Due.due("bytes", x.count(5), due[w].length());
        }
    }

    /** "or THE STRIP". */
    private static void writtenStripOfNoneToForty() {
        WordRace x = Due.with(3, "");
        StringBuilder due = new StringBuilder();
        for (int i = 0; i <= 40; i++) {
            if (i == 0 || i == 1 || i == 39 || i == 40) {
                Due.due("write(-1) of " + i, x.write(-1), i);
                Due.text("written", Due.paper(x), due.toString());
                Due.due("bytes", x.count(5), i);
            }
            x.cast(1 + i * i % 3);
            due.append((char) ('a' + i * i % 3));
        }
    }

    /** "NONE": the paper stays. */
    private static void writeIsNone() {
        WordRace x = Due.with(2, "ab;b");
        int[] none = {LEAST, -3, -2, 2, 3, 6, MOST};
        for (int word : none) Due.due("write(" + word + ") at first", x.write(word), -1);
        Due.due("nothing is written", x.count(5), 0);
        x.write(0);
        for (int word : none) Due.due("write(" + word + ")", x.write(word), -1);
        Due.text("it stays", Due.paper(x), "ab");
        Due.due("without words, a word", new WordRace().write(0), -1);
        Due.due("without words, the strip", new WordRace().write(-1), 0);
    }

    /** "THE PAPER holds the latest one (nothing at first)". */
    private static void paperHoldsTheLatest() {
        WordRace x = Due.with(2, "a5;b");
        x.casts(40, 1);
        x.write(-1);
        x.write(0);
        Due.text("the latest", Due.paper(x), "aaaaa");
        Due.due("place 5 is gone", x.paper(5), -1);
        x.write(1);
        Due.text("the latest", Due.paper(x), "b");
        Due.due("place 1 is gone", x.paper(1), -1);
        x.wipe();
        x.becomes(1, 1);
        Due.text("it stays as it was written", Due.paper(x), "b");
        x.write(-1);
        Due.text("an empty strip", Due.paper(x), "");
        Due.due("place 0 is gone", x.paper(0), -1);
    }

    private static void paperHoldsSigns() {
        WordRace x = Due.with(3, "abc");
        x.write(0);
        int[] due = {97, 98, 99};
        for (int i = 0; i < 3; i++) Due.due("paper(" + i + ")", x.paper(i), due[i]);
    }

    /** "Byte i of THE PAPER. NONE." */
    private static void paperIsNone() {
        WordRace x = Due.with(2, "ab");
        int[] none = {LEAST, -1, 2, 3, 5, 39, 40, 41, 64, MOST};
        for (int i : none) Due.due("paper(" + i + ") at first", x.paper(i), -1);
        Due.due("paper(0) at first", x.paper(0), -1);
        x.write(0);
        for (int i : none) Due.due("paper(" + i + ")", x.paper(i), -1);
        x.casts(40, 1);
        x.write(-1);
        Due.due("paper(39) of forty", x.paper(39), 'a' + x.strip(39) - 1);
        int[] ofForty = {LEAST, -1, 40, 41, 64, MOST};
        for (int i : ofForty) Due.due("paper(" + i + ") of forty", x.paper(i), -1);
    }
}
