/** Promises 10 to 16: chances, best answers, trails, rings, fields, rows of throws. */
public final class ChancesTest {
    public static void main(String[] args) {
        chance();
        answered();
        trail();
        ring();
        ringOfThree();
        field();
        mean();
        within();
        withinIsWrong();
        Due.end();
    }

    private static void chanceOf(WordRace x, int one, int other, long above, long below) {
        Due.fraction("chance(" + one + ", " + other + ")", x.chance(one, other, 0), x.chance(one, other, 1), above, below);
    }

    private static void chance() {
        WordRace x = Due.with(2, "b3;ab2;aab;aba;ab;abb");
        chanceOf(x, 0, 1, 1, 8);
        chanceOf(x, 1, 0, 7, 8);
        chanceOf(x, 2, 1, 2, 3);
        chanceOf(x, 1, 2, 1, 3);
        chanceOf(x, 0, 4, 1, 8);
        chanceOf(x, 1, 3, 1, 2);
        chanceOf(x, 4, 1, Due.NO, Due.NO);
        chanceOf(x, 1, 4, Due.NO, Due.NO);
        chanceOf(x, 1, 1, Due.NO, Due.NO);
        chanceOf(x, 1, 5, Due.NO, Due.NO);
        chanceOf(x, 0, 6, Due.NO, Due.NO);
        chanceOf(x, -1, 0, Due.NO, Due.NO);
        Due.due("chance part 2", x.chance(0, 1, 2), Due.NO);
        Due.due("chance part -1", x.chance(0, 1, -1), Due.NO);
        x.sides(3);
        chanceOf(x, 0, 1, 5, 18);
        chanceOf(x, 4, 0, 13, 15);
        WordRace y = Due.with(2, "ab;a4");
        chanceOf(y, 1, 0, 1, 8);
    }

    private static void answered() {
        WordRace x = Due.with(2, "a;aab;aba;a5");
        long[][] due = {{1, 2}, {3, 4}, {2, 3}, {31, 32}};
        for (int i = 0; i < due.length; i++) {
            Due.fraction("answered(" + i + ")", x.answered(i, 0), x.answered(i, 1), due[i][0], due[i][1]);
        }
        x.sides(3);
        Due.fraction("answered(3) of three", x.answered(3, 0), x.answered(3, 1), 121, 162);
        Due.due("answered(4, 0)", x.answered(4, 0), Due.NO);
        Due.due("answered(-1, 0)", x.answered(-1, 0), Due.NO);
        Due.due("answered(0, 2)", x.answered(0, 2), Due.NO);
        Due.due("answered(0, -1)", x.answered(0, -1), Due.NO);
    }

    private static void trail() {
        WordRace x = Due.with(2, "a;aab;a3;ababa;ab2a");
        int[][] due = {{2, 2}, {4, 4}, {5, 4}, {11, 8}, {7, 6}};
        for (int i = 0; i < due.length; i++) {
            Due.due("trail(" + i + ", 0)", x.trail(i, 0), due[i][0]);
            Due.due("trail(" + i + ", 1)", x.trail(i, 1), due[i][1]);
        }
        x.sides(3);
        x.becomes(0, 3);
        Due.due("trail of c, unlike", x.trail(0, 0), 3);
        Due.due("trail of c, again", x.trail(0, 1), 2);
        Due.due("trail(0, 2)", x.trail(0, 2), -1);
        Due.due("trail(0, -1)", x.trail(0, -1), -1);
        Due.due("trail(5, 0)", x.trail(5, 0), -1);
        Due.due("trail(-1, 0)", x.trail(-1, 0), -1);
    }

    private static void ringIs(WordRace x, int... ring) {
        Due.due("ring(-1)", x.ring(-1), ring.length == 0 ? -5 : ring.length);
        for (int k = 0; k < 7; k++) Due.due("ring(" + k + ")", x.ring(k), k < ring.length ? ring[k] : -5);
        Due.due("ring(-2)", x.ring(-2), -5);
        Due.due("ring(least)", x.ring(Integer.MIN_VALUE), -5);
        Due.due("ring(most)", x.ring(Integer.MAX_VALUE), -5);
    }

    private static void ring() {
        ringIs(new WordRace());
        ringIs(Due.with(2, "aab;abb;bba"));
        ringIs(Due.with(2, "aab;abb;bba;baa"), 0, 1, 2, 3);
        ringIs(Due.with(2, "baa;bba;abb;aab;aab;baa"), 0, 3, 2, 1);
        ringIs(Due.with(2, "bab;aab;abb;bba;baa;aba"), 1, 2, 3, 4);
        ringIs(Due.with(2, "aab;aab;aab;abb"));
    }

    private static void ringOfThree() {
        WordRace x = Due.with(2, "abab;baa;bbab;abba;babb;baab");
        ringIs(x, 2, 4, 3);
        x.becomes(1, 2212);
        ringIs(x, 1, 4, 3);
        x.becomes(4, 1);
        Due.due("a ring no more", x.ring(-1), -5);
    }

    private static void field() {
        WordRace x = Due.with(2, "aab;bab;aba;ab2;b4;ab");
        fieldIs(x, 0b1111, new long[][] {{1, 2}, {1, 4}, {1, 8}, {1, 8}});
        fieldIs(x, 0b0011, new long[][] {{5, 8}, {3, 8}});
        fieldIs(x, 0b0101, new long[][] {{2, 3}, {1, 3}});
        fieldIs(x, 0b110000, new long[][] {{1, 16}, {15, 16}});
        long[] wrongSets = {0, 1, 0b100000, 0b11111, 0b111111, 0b1000011, -1, Integer.MIN_VALUE, 0b100001, 1 << 31 | 3};
        for (long set : wrongSets) {
            for (int word = 0; word < 6; word++) Due.due("field(" + set + ")", x.field((int) set, word, 0), Due.NO);
        }
        Due.due("not in the set", x.field(3, 2, 0), Due.NO);
        Due.due("no such word", x.field(3, 6, 0), Due.NO);
        Due.due("word -1", x.field(3, -1, 0), Due.NO);
        Due.due("word 32", x.field(3, 32, 0), Due.NO);
        Due.due("part 2", x.field(3, 0, 2), Due.NO);
        Due.due("part -1", x.field(3, 0, -1), Due.NO);
        x.becomes(5, 112);
        Due.due("alike ones", x.field(0b100001, 0, 0), Due.NO);
    }

    private static void fieldIs(WordRace x, int set, long[][] due) {
        int at = 0;
        for (int word = 0; word < 6; word++) {
            if ((set >> word & 1) == 0) continue;
            Due.fraction("field(" + set + ", " + word + ")", x.field(set, word, 0), x.field(set, word, 1), due[at][0], due[at][1]);
            at++;
        }
    }

    private static void meanIs(WordRace x, int set, long above, long below) {
        Due.fraction("mean(" + set + ")", x.mean(set, 0), x.mean(set, 1), above, below);
    }

    private static void mean() {
        WordRace x = Due.with(2, "aab;bab;aba;ab2;b4;ab");
        meanIs(x, 0b1111, 17, 4);
        WordRace y = Due.with(2, "a;b");
        meanIs(y, 3, 1, 1);
        y.sides(3);
        meanIs(y, 3, 3, 2);
        WordRace z = Due.with(3, "a;b;c");
        meanIs(z, 7, 1, 1);
        meanIs(x, 0b110000, 15, 4);
        meanIs(x, 1, Due.NO, Due.NO);
        meanIs(x, 0, Due.NO, Due.NO);
        meanIs(x, 0b11111, Due.NO, Due.NO);
        meanIs(x, 0b100001, Due.NO, Due.NO);
        meanIs(x, 0b1000001, Due.NO, Due.NO);
        meanIs(x, -1, Due.NO, Due.NO);
        Due.due("part 2", x.mean(3, 2), Due.NO);
        Due.due("part -1", x.mean(3, -1), Due.NO);
    }

    private static void within() {
        WordRace x = Due.with(2, "ab;b2;a5;a");
        // Ahead of ab comes bb only by the first two throws; neither ends, if all are a, or all but the first.
        int[] first = {0, 0, 1, 4, 10, 22, 46};
        int[] alone = {0, 0, 1, 4, 11, 26, 57};
        for (int n = 0; n < first.length; n++) {
            Due.due("ab ahead of bb in " + n, x.within(3, 0, n), first[n]);
            Due.due("ab in " + n, x.within(1, 0, n), alone[n]);
        }
        Due.due("a5 in 4", x.within(4, 2, 4), 0);
        Due.due("a5 in 5", x.within(4, 2, 5), 1);
        Due.due("a5 in 6", x.within(4, 2, 6), 3);
        Due.due("a in 12", x.within(8, 3, 12), 4095);
        x.sides(3);
        Due.due("a in 12 of three", x.within(8, 3, 12), 531441 - 4096);
        Due.due("bb in 2 of three", x.within(3, 1, 2), 1);
        Due.due("bb in 3 of three", x.within(3, 1, 3), 3 + 2 - 1);
    }

    private static void withinIsWrong() {
        WordRace x = Due.with(2, "aab;bab;aba;ab2;b4;ab");
        Due.due("five words", x.within(0b11111, 0, 3), -2);
        Due.due("six words", x.within(0b111111, 5, 3), -2);
        Due.due("five words, not in it", x.within(0b11111, 5, 3), -1);
        Due.due("n 13", x.within(3, 0, 13), -2);
        Due.due("n -1", x.within(3, 0, -1), -2);
        Due.due("n 13 ahead of STATE", x.within(0b100001, 0, 13), -2);
        Due.due("one in another", x.within(0b100001, 0, 12), -3);
        Due.due("NONE ahead of BAD", x.within(3, 2, 13), -1);
        Due.due("NONE ahead of STATE", x.within(0b100001, 1, 3), -1);
        Due.due("bits of none", x.within(0b1000001, 0, 3), -1);
        Due.due("set -1", x.within(-1, 0, 3), -1);
        Due.due("least set", x.within(Integer.MIN_VALUE + 1, 0, 3), -1);
        Due.due("set 0", x.within(0, 0, 3), -1);
        Due.due("word -1", x.within(3, -1, 3), -1);
        Due.due("word 6", x.within(3, 6, 3), -1);
        Due.due("word 32", x.within(3, 32, 3), -1);
        Due.due("one word", x.within(1, 0, 3), 1);
        Due.due("four words", x.within(0b1111, 3, 3), 1);
        Due.due("without words", new WordRace().within(1, 0, 3), -1);
    }
}
