/** Promises 17 to 24: the strip, where words end in it, who ends first. */
public final class StripTest {
    public static void main(String[] args) {
        cast();
        casts();
        castsOfThree();
        wipe();
        strip();
        ends();
        seen();
        who();
        were();
        Due.end();
    }

    private static void cast() {
        WordRace x = new WordRace();
        Due.due("cast(0)", x.cast(0), -2);
        Due.due("cast(3)", x.cast(3), -2);
        Due.due("cast(-1)", x.cast(-1), -2);
        for (int i = 1; i <= 40; i++) Due.due("cast " + i, x.cast(1 + i % 2), i);
        Due.due("cast(1) on 40", x.cast(1), -4);
        Due.due("cast(3) on 40", x.cast(3), -2);
        Due.due("cast(0) on 40", x.cast(0), -2);
        Due.due("count(1) behind FULL", x.count(1), 40);
        x.sides(3);
        x.wipe();
        Due.due("cast(3) of three", x.cast(3), 1);
        Due.due("cast(4) of three", x.cast(4), -2);
        Due.due("strip(0)", x.strip(0), 3);
    }

    /** The strip by its letters. */
    private static String letters(WordRace x) {
        StringBuilder text = new StringBuilder();
        for (int i = 0; i < x.count(1); i++) text.append((char) ('a' + x.strip(i) - 1));
        return text.toString();
    }

    private static void casts() {
        WordRace x = new WordRace();
        Due.due("casts(0, 1)", x.casts(0, 1), -2);
        Due.due("casts(41, 1)", x.casts(41, 1), -2);
        Due.due("casts(-1, 1)", x.casts(-1, 1), -2);
        Due.due("casts(12, 7)", x.casts(12, 7), 12);
        Due.text("drawn by 7", letters(x), Due.drawn(2, 7, 12));
        Due.due("casts(3, -5)", x.casts(3, -5), 15);
        Due.text("drawn by -5, too", letters(x), Due.drawn(2, 7, 12) + Due.drawn(2, -5, 3));
        Due.due("casts(40, 9)", x.casts(40, 9), 40);
        Due.text("till there are 40", letters(x), Due.drawn(2, 7, 12) + Due.drawn(2, -5, 3) + Due.drawn(2, 9, 25));
        Due.due("casts(1, 1) on 40", x.casts(1, 1), 40);
        Due.due("casts(41, 1) on 40", x.casts(41, 1), -2);
        WordRace y = new WordRace();
        Due.due("casts(40, least)", y.casts(40, Integer.MIN_VALUE), 40);
        Due.text("drawn by the least", letters(y), Due.drawn(2, Integer.MIN_VALUE, 40));
    }

    private static void castsOfThree() {
        WordRace x = Due.with(3, "");
        Due.due("casts(40, 123456789)", x.casts(40, 123456789), 40);
        Due.text("drawn of three", letters(x), Due.drawn(3, 123456789, 40));
    }

    private static void wipe() {
        WordRace x = Due.with(2, "ab");
        Due.due("wipe() of none", x.wipe(), 0);
        Due.cast(x, "abab");
        Due.due("wipe()", x.wipe(), 4);
        Due.due("wipe() again", x.wipe(), 0);
        Due.due("count(1)", x.count(1), 0);
        Due.due("strip(0)", x.strip(0), -1);
        Due.due("ends(0)", x.ends(0), 0);
        Due.due("words stay", x.count(0), 1);
        Due.cast(x, "b");
        Due.due("strip(0) anew", x.strip(0), 2);
        Due.due("strip(1) anew", x.strip(1), -1);
    }

    private static void strip() {
        WordRace x = Due.with(3, "");
        Due.cast(x, "abcca");
        int[] due = {1, 2, 3, 3, 1};
        for (int i = 0; i < due.length; i++) Due.due("strip(" + i + ")", x.strip(i), due[i]);
        Due.due("strip(5)", x.strip(5), -1);
        Due.due("strip(40)", x.strip(40), -1);
        Due.due("strip(-1)", x.strip(-1), -1);
        Due.due("strip(least)", x.strip(Integer.MIN_VALUE), -1);
    }

    private static void ends() {
        WordRace x = Due.with(2, "aa;aba;b;bbbbb");
        Due.cast(x, "aaababa");
        Due.due("ends of aa", x.ends(0), 0b110);
        Due.due("ends of aba", x.ends(1), 0b1010000);
        Due.due("ends of b", x.ends(2), 0b101000);
        Due.due("ends of b5", x.ends(3), 0);
        Due.due("ends(4)", x.ends(4), Due.NO);
        Due.due("ends(-1)", x.ends(-1), Due.NO);
        for (int i = 7; i < 40; i++) x.cast(2);
        Due.due("ends of b to the last place", x.ends(2), 0b101000L | (1L << 40) - (1L << 7));
        Due.due("ends of b5 to the last place", x.ends(3), (1L << 40) - (1L << 11));
    }

    private static void seen() {
        WordRace x = Due.with(2, "aa;abab;b;aab;bbabb");
        int[][] empty = {{-5, 0, 0}, {-5, 0, 0}, {-5, 0, 0}, {-5, 0, 0}, {-5, 0, 0}};
        seenIs(x, empty);
        Due.cast(x, "bab");
        seenIs(x, new int[][] {{-5, 0, 0}, {-5, 0, 2}, {0, 2, 1}, {-5, 0, 0}, {-5, 0, 1}});
        Due.cast(x, "aaab");
        seenIs(x, new int[][] {{4, 2, 0}, {-5, 0, 2}, {0, 3, 1}, {6, 1, 3}, {-5, 0, 1}});
        Due.cast(x, "ab");
        seenIs(x, new int[][] {{4, 2, 0}, {8, 1, 4}, {0, 4, 1}, {6, 1, 0}, {-5, 0, 1}});
        Due.cast(x, "ba");
        seenIs(x, new int[][] {{4, 2, 1}, {8, 1, 1}, {0, 5, 0}, {6, 1, 1}, {-5, 0, 3}});
        Due.due("seen(0, 3)", x.seen(0, 3), -1);
        Due.due("seen(0, -1)", x.seen(0, -1), -1);
        Due.due("seen(5, 0)", x.seen(5, 0), -1);
        Due.due("seen(-1, 0)", x.seen(-1, 0), -1);
    }

    private static void seenIs(WordRace x, int[][] due) {
        for (int w = 0; w < due.length; w++) {
            for (int what = 0; what < 3; what++) Due.due("seen(" + w + ", " + what + ")", x.seen(w, what), due[w][what]);
        }
    }

    private static void who() {
        WordRace x = Due.with(2, "bba;ba;b3;bba");
        Due.due("none ends", x.who(), -5);
        Due.cast(x, "bb");
        Due.due("none ends yet", x.who(), -5);
        Due.cast(x, "a");
        Due.due("the longest, then the first", x.who(), 0);
        x.becomes(0, 12);
        Due.due("the longest", x.who(), 3);
        x.becomes(3, 2);
        Due.due("the least first", x.who(), 3);
        x.becomes(0, 2);
        Due.due("the least number", x.who(), 0);
        Due.due("without words", new WordRace().who(), -5);
    }

    private static void were() {
        WordRace x = Due.with(2, "aa;ab;aba");
        Due.due("empty strip", x.were(0, 0), -1);
        Due.cast(x, "aab");
        Due.due("were(0, 0)", x.were(0, 0), 1);
        Due.due("were(0, 1)", x.were(0, 1), 2);
        Due.due("were(1, 0)", x.were(1, 0), 1);
        Due.due("were(1, 1)", x.were(1, 1), 2);
        Due.due("were(2, 0)", x.were(2, 0), 3);
        Due.due("were(2, 2)", x.were(2, 2), 0);
        Due.due("who() stays", x.who(), 0);
        Due.text("the strip stays", letters(x), "aab");
        Due.due("were(3, 0)", x.were(3, 0), -1);
        Due.due("were(-1, 0)", x.were(-1, 0), -1);
        Due.due("were(0, 3)", x.were(0, 3), -1);
        Due.due("were(0, -1)", x.were(0, -1), -1);
        x.sides(3);
        x.becomes(2, 31);
        Due.due("with c", x.were(0, 2), 4);
        x.becomes(0, 3);
        Due.due("a c behind", x.were(2, 0), 4);
        Due.due("a c ahead", x.were(0, 0), 4);
    }
}
