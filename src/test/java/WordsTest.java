/** Promises 1 to 9: a new object, sides, the tape, words and how they overlap. */
public final class WordsTest {
    public static void main(String[] args) {
        newObject();
        sides();
        feed();
        words();
        faults();
        full();
        becomes();
        of();
        overlaps();
        number();
        isIn();
        Due.end();
    }

    private static void newObject() {
        WordRace x = new WordRace();
        int[] counts = {0, 0, 0, 2, 0, 0, 0};
        for (int i = 0; i < counts.length; i++) Due.due("new count(" + i + ")", x.count(i), counts[i]);
        Due.due("new who()", x.who(), -5);
        Due.due("new strip(0)", x.strip(0), -1);
        Due.due("new paper(0)", x.paper(0), -1);
        Due.due("new undo()", x.undo(), -3);
        Due.due("new of(0, 0)", x.of(0, 0), -1);
        Due.due("new playerOf(0, 0)", x.playerOf(0, 0), -1);
        for (int i = 0; i < 4; i++) Due.due("new judge(" + i + ")", x.judge(i), -11);
    }

    private static void sides() {
        WordRace x = new WordRace();
        Due.due("sides(1)", x.sides(1), -2);
        Due.due("sides(4)", x.sides(4), -2);
        Due.due("sides(-3)", x.sides(-3), -2);
        Due.due("sides(2)", x.sides(2), 2);
        Due.due("sides(3)", x.sides(3), 2);
        Due.due("sides(3) again", x.sides(3), 3);
        Due.tell(x, "bca");
        Due.due("sides(2) with bca", x.sides(2), -3);
        Due.due("count(3) behind STATE", x.count(3), 3);
        Due.due("sides(1) ahead of STATE", x.sides(1), -2);
        x.becomes(0, 211);
        Due.due("sides(2) with baa", x.sides(2), 3);
        x.sides(3);
        x.cast(1);
        x.cast(3);
        Due.due("sides(2) with c thrown", x.sides(2), -3);
        x.wipe();
        x.cast(3);
        x.cast(1);
        Due.due("sides(2) with c thrown first", x.sides(2), -3);
        x.wipe();
        x.cast(1);
        x.plan(0, 3);
        Due.feed(x, "c");
        Due.due("sides(2) with c planned and fed", x.sides(2), 3);
    }

    private static void feed() {
        WordRace x = new WordRace();
        Due.due("feed(0)", x.feed(0), -2);
        Due.due("feed(128)", x.feed(128), -2);
        Due.due("feed(-1)", x.feed(-1), -2);
        Due.due("feed(1)", x.feed(1), 1);
        for (int i = 2; i <= 60; i++) Due.due("feed(127)", x.feed(127), i);
        Due.due("feed(97) on 60", x.feed(97), -4);
        Due.due("feed(0) on 60", x.feed(0), -2);
        Due.due("count(4) of 60", x.count(4), 60);
        Due.due("words() of 60", x.words(), -100);
        Due.due("count(4) behind words()", x.count(4), 0);
        Due.due("feed(97) anew", x.feed(97), 1);
    }

    private static void words() {
        WordRace x = new WordRace();
        Due.due("ab", Due.tell(x, "ab"), 1);
        Due.due("a5;b4a;ba2b2", Due.tell(x, "a5;b4a;ba2b2"), 4);
        int[] numbers = {12, 11111, 22221, 21122};
        for (int i = 0; i < numbers.length; i++) Due.due("word " + i, x.of(i, 0), numbers[i]);
        Due.due("tape behind words()", x.count(4), 0);
        x.sides(3);
        Due.due("c3b;abcab", Due.tell(x, "c3b;abcab"), 6);
        Due.due("c3b", x.of(4, 0), 3332);
        Due.due("abcab", x.of(5, 0), 12312);
        Due.due("longest of one letter a time", Due.tell(new WordRace(), "aaaaa"), 1);
        Due.due("bb2bb", Due.tell(new WordRace(), "bb2bb"), 1);
    }

    private static void faults() {
        fault(2, "", 0);
        fault(2, ";", 0);
        fault(2, "2", 0);
        fault(2, "A", 0);
        fault(2, "a;;b", 2);
        fault(2, "a;", 2);
        fault(2, "a;b;", 4);
        fault(2, "a;2", 2);
        fault(2, "c", 0);
        fault(2, "abc", 2);
        fault(3, "abd", 2);
        fault(3, "ab`", 2);
        fault(2, "a1", 1);
        fault(2, "a6", 1);
        fault(2, "a0", 1);
        fault(2, "a22", 2);
        fault(2, "a2b23", 4);
        fault(2, "a b", 1);
        fault(2, "ababab", 5);
        fault(2, "a5b", 2);
        fault(2, "ba5", 2);
        fault(2, "aaaa3", 4);
        fault(2, "b;aaaaa;bbbbbb", 13);
        fault(2, "a;a;a;a;a;a;a;d", 14);
        fault(2, "a;a;a;a;a;a;a;", 14);
        StringBuilder sixty = new StringBuilder();
        for (int i = 0; i < 30; i++) sixty.append("a;");
        fault(2, sixty.toString(), 60);
        WordRace x = new WordRace();
        Due.tell(x, "abq");
        Due.due("nothing is left of a faulty text", Due.tell(x, "2"), -100);
        Due.tell(x, "abq");
        Due.due("no letters are left of a faulty text", Due.tell(x, "a"), 1);
        Due.due("just the letter", x.of(0, 0), 1);
    }

    private static void fault(int sides, String text, int place) {
        WordRace x = Due.with(sides, "");
        Due.due("words() of '" + text + "'", Due.tell(x, text), -100 - place);
        Due.due("no words of '" + text + "'", x.count(0), 0);
        Due.due("tape behind '" + text + "'", x.count(4), 0);
        Due.due("words() of nothing", x.words(), -100);
    }

    private static void full() {
        WordRace x = Due.with(2, "a;b;ab;ba;aa");
        Due.due("two more than five", Due.tell(x, "ab2;b"), -4);
        Due.due("none came", x.count(0), 5);
        Due.due("the tape is empty", x.count(4), 0);
        Due.due("a fault ahead of FULL", Due.tell(x, "ab2;b;"), -106);
        Due.due("the sixth", Due.tell(x, "ab2"), 6);
        Due.due("a seventh", Due.tell(x, "a"), -4);
        Due.due("a fault with six", Due.tell(x, "q"), -100);
        Due.due("the last", x.of(5, 0), 122);
        Due.due("no seventh", x.of(6, 0), -1);
        StringBuilder thirty = new StringBuilder("a");
        for (int i = 1; i < 30; i++) thirty.append(";a");
        Due.due("thirty at once", Due.tell(new WordRace(), thirty.toString()), -4);
        Due.due("seven at once", Due.tell(new WordRace(), "a;a;a;a;a;a;a"), -4);
        Due.due("six at once", Due.tell(new WordRace(), "a;a;a;a;a;a"), 6);
    }

    private static void becomes() {
        WordRace x = Due.with(2, "ab;b");
        int[] bad = {0, -1, 3, 10, 13, 20, 101, 111111, 122222, 1000000011, Integer.MIN_VALUE, Integer.MAX_VALUE, -12};
        for (int number : bad) Due.due("becomes(0, " + number + ")", x.becomes(0, number), -2);
        Due.due("becomes(2, 1)", x.becomes(2, 1), -1);
        Due.due("becomes(-1, 1)", x.becomes(-1, 1), -1);
        Due.due("becomes(2, 0)", x.becomes(2, 0), -1);
        Due.due("becomes(0, 22222)", x.becomes(0, 22222), 12);
        Due.due("becomes(0, 1)", x.becomes(0, 1), 22222);
        Due.due("of(0, 0)", x.of(0, 0), 1);
        Due.due("of(1, 0)", x.of(1, 0), 2);
        Due.due("count(0)", x.count(0), 2);
        x.sides(3);
        Due.due("becomes(1, 33333)", x.becomes(1, 33333), 2);
        Due.due("becomes(1, 33334)", x.becomes(1, 33334), -2);
        Due.due("becomes(1, 4)", x.becomes(1, 4), -2);
    }

    private static void of() {
        WordRace x = Due.with(2, "a;ab;ababa;b3;abba");
        int[][] due = {{1, 1, 2, 2}, {12, 2, 4, 11}, {12121, 5, 42, 11212}, {222, 3, 14, 122}, {1221, 4, 18, 1122}};
        for (int i = 0; i < due.length; i++) {
            for (int what = 0; what < 4; what++) {
                Due.due("of(" + i + ", " + what + ")", x.of(i, what), due[i][what]);
            }
        }
        int[] words = {111, 112, 121, 122, 211, 212, 221, 222};
        int[] answers = {211, 211, 112, 112, 221, 221, 122, 122};
        WordRace y = Due.with(2, "a");
        for (int i = 0; i < words.length; i++) {
            y.becomes(0, words[i]);
            Due.due("best answer to " + words[i], y.of(0, 3), answers[i]);
        }
        y.sides(3);
        y.becomes(0, 3);
        Due.due("best answer to c", y.of(0, 3), 1);
        y.becomes(0, 1);
        Due.due("best answer to a of three", y.of(0, 3), 2);
        y.becomes(0, 33333);
        Due.due("wait for c5", y.of(0, 2), 363);
        Due.due("best answer to c5", y.of(0, 3), 13333);
        Due.due("of(0, 4)", x.of(0, 4), -1);
        Due.due("of(0, -1)", x.of(0, -1), -1);
        Due.due("of(5, 0)", x.of(5, 0), -1);
        Due.due("of(-1, 0)", x.of(-1, 0), -1);
    }

    private static void overlaps() {
        WordRace x = Due.with(2, "ababa;bab;b;aba2b");
        Due.due("overlaps(0, 0)", x.overlaps(0, 0), 1 + 4 + 16);
        Due.due("overlaps(0, 1)", x.overlaps(0, 1), 2);
        Due.due("overlaps(1, 0)", x.overlaps(1, 0), 2);
        Due.due("overlaps(1, 1)", x.overlaps(1, 1), 5);
        Due.due("overlaps(2, 1)", x.overlaps(2, 1), 1);
        Due.due("overlaps(1, 2)", x.overlaps(1, 2), 1);
        Due.due("overlaps(2, 0)", x.overlaps(2, 0), 0);
        Due.due("overlaps(0, 3)", x.overlaps(0, 3), 1 + 4);
        Due.due("overlaps(3, 0)", x.overlaps(3, 0), 2);
        Due.due("overlaps(3, 3)", x.overlaps(3, 3), 2 + 16);
        Due.due("overlaps(4, 0)", x.overlaps(4, 0), -1);
        Due.due("overlaps(0, 4)", x.overlaps(0, 4), -1);
        Due.due("overlaps(-1, 0)", x.overlaps(-1, 0), -1);
        Due.due("overlaps(0, -1)", x.overlaps(0, -1), -1);
    }

    private static void number() {
        WordRace x = Due.with(2, "ababa;bab;b");
        Due.due("number(0, 0)", x.number(0, 0), 42);
        Due.due("number(0, 1)", x.number(0, 1), 4);
        Due.due("number(2, 0)", x.number(2, 0), 0);
        Due.due("number(2, 1)", x.number(2, 1), 2);
        x.sides(3);
        Due.due("number(0, 0) of three", x.number(0, 0), 3 + 27 + 243);
        Due.due("number(1, 0) of three", x.number(1, 0), 9);
        Due.due("number(3, 0)", x.number(3, 0), -1);
        Due.due("number(0, 3)", x.number(0, 3), -1);
        Due.due("number(-1, 0)", x.number(-1, 0), -1);
        Due.due("number(0, -2)", x.number(0, -2), -1);
    }

    private static void isIn() {
        WordRace x = Due.with(2, "abaab;aab;aba;ba2;bb;aab");
        int[] inFirst = {1, 1, 1, 1, 0, 1};
        for (int i = 0; i < 6; i++) {
            Due.due("isIn(" + i + ", 0)", x.isIn(i, 0), inFirst[i]);
            Due.due("isIn(" + i + ", itself)", x.isIn(i, i), 1);
            if (i > 0) Due.due("isIn(0, " + i + ")", x.isIn(0, i), 0);
        }
        Due.due("alike ones", x.isIn(1, 5), 1);
        Due.due("aba in aab", x.isIn(2, 1), 0);
        Due.due("isIn(6, 0)", x.isIn(6, 0), -1);
        Due.due("isIn(0, 6)", x.isIn(0, 6), -1);
        Due.due("isIn(-1, 0)", x.isIn(-1, 0), -1);
        Due.due("isIn(0, -1)", x.isIn(0, -1), -1);
    }
}
