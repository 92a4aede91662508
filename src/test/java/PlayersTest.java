/** Promises 25 to 30: players of kinds, what they pick, matches; duels drawn by seeds, odds. */
public final class PlayersTest {
    public static void main(String[] args) {
        player();
        playerOf();
        wins();
        pick();
        pickOfOneLetter();
        pickOfThree();
        pickIsWrong();
        match();
        duel();
        duelIsWrong();
        odds();
        Due.end();
    }

    private static void player() {
        WordRace x = Due.with(2, "ab;ba");
        Due.due("player(6, 0)", x.player(6, 0), -1);
        Due.due("player(-1, 0)", x.player(-1, 0), -1);
        Due.due("player(0, 2)", x.player(0, 2), -1);
        Due.due("player(0, -1)", x.player(0, -1), -1);
        Due.due("none came", x.count(2), 0);
        for (int i = 0; i < 4; i++) Due.due("player(" + (i + 2) + ", 1)", x.player(i + 2, 1), i);
        Due.due("a fifth", x.player(0, 0), -4);
        Due.due("a fifth of no kind", x.player(6, 0), -1);
        Due.due("a fifth of no word", x.player(0, 2), -1);
        Due.due("four", x.count(2), 4);
        Due.due("without words", new WordRace().player(0, 0), -1);
    }

    private static void playerOf() {
        WordRace x = Due.with(2, "ab;ba;aa");
        x.player(5, 2);
        x.player(0, 1);
        Due.due("kind of 0", x.playerOf(0, 0), 5);
        Due.due("word of 0", x.playerOf(0, 1), 2);
        Due.due("kind of 1", x.playerOf(1, 0), 0);
        Due.due("word of 1", x.playerOf(1, 1), 1);
        x.becomes(1, 222);
        Due.due("word of 1, become another", x.playerOf(1, 1), 1);
        Due.due("it picks the other", x.pick(1, 0, 0), 222);
        Due.due("playerOf(2, 0)", x.playerOf(2, 0), -1);
        Due.due("playerOf(-1, 0)", x.playerOf(-1, 0), -1);
        Due.due("playerOf(0, 3)", x.playerOf(0, 3), -1);
        Due.due("playerOf(0, -1)", x.playerOf(0, -1), -1);
    }

    private static void wins() {
        WordRace x = Due.with(2, "abb;bbb;aab;abb");
        x.player(0, 0);
        Due.due("alone", x.playerOf(0, 2), 0);
        x.player(0, 1);
        Due.due("abb beats bbb", x.playerOf(0, 2), 1);
        Due.due("bbb does not", x.playerOf(1, 2), 0);
        x.player(0, 2);
        Due.due("aab beats abb, bbb", x.playerOf(2, 2), 2);
        Due.due("abb does not beat aab", x.playerOf(0, 2), 1);
        x.player(0, 3);
        Due.due("alike ones have no chance", x.playerOf(3, 2), 1);
        Due.due("aab beats three", x.playerOf(2, 2), 3);
        WordRace y = Due.with(2, "ab;ba");
        y.player(0, 0);
        y.player(0, 1);
        Due.due("just a half", y.playerOf(0, 2), 0);
        WordRace z = Due.with(2, "aab;abb");
        z.player(4, 0);
        z.player(0, 0);
        z.player(4, 1);
        Due.due("keen picks first for his own", z.pick(0, 1, 0), 211);
        Due.due("and beats it, but not the answer", z.playerOf(0, 2), 1);
    }

    private static void pick() {
        WordRace x = Due.with(2, "aabab;bba");
        int[] first = {11212, 21211, 21121, 12122, 11121, 11212};
        for (int kind = 0; kind < 6; kind++) {
            WordRace y = Due.with(2, "aabab;bba");
            y.player(kind, 0);
            y.player(0, 1);
            Due.due("kind " + kind + " first", y.pick(0, 1, 0), first[kind]);
            Due.due("the stayer behind it", y.pick(0, 1, 1), 221);
        }
        int[] second = {11212, 21211, 122, 12122, 122, 11212};
        for (int kind = 0; kind < 6; kind++) {
            WordRace y = Due.with(2, "aabab;bba");
            y.player(0, 1);
            y.player(kind, 0);
            Due.due("the stayer first", y.pick(0, 1, 0), 221);
            Due.due("kind " + kind + " behind it", y.pick(0, 1, 1), second[kind]);
        }
        x.player(2, 0);
        x.player(2, 1);
        Due.due("answerer first", x.pick(0, 1, 0), 21121);
        Due.due("answerer to the answerer", x.pick(0, 1, 1), 22112);
    }

    private static void pickOfOneLetter() {
        int[] due = {1, 1, 2, 2, 2, 2};
        for (int kind = 0; kind < 6; kind++) {
            WordRace x = Due.with(2, "a");
            x.player(kind, 0);
            x.player(0, 0);
            Due.due("kind " + kind + " of one letter", x.pick(0, 1, 0), due[kind]);
            Due.due("kind " + kind + " of one letter, behind", x.pick(1, 0, 1), due[kind]);
        }
        WordRace y = Due.with(2, "ab");
        y.player(2, 0);
        y.player(5, 0);
        Due.due("answerer of two letters", y.pick(0, 1, 0), 11);
        Due.due("doubler of two letters", y.pick(0, 1, 1), 11);
        y.becomes(0, 11);
        Due.due("answerer of alike letters", y.pick(0, 1, 0), 21);
    }

    private static void pickOfThree() {
        WordRace x = Due.with(3, "abcca");
        int[] kinds = {1, 2, 3, 5};
        int[] due = {13321, 31233, 21132, 22113};
        for (int i = 0; i < kinds.length; i++) x.player(kinds[i], 0);
        for (int i = 0; i < kinds.length; i++) {
            Due.due("kind " + kinds[i] + " of three", x.pick(i, (i + 1) % 4, 0), due[i]);
        }
    }

    private static void pickIsWrong() {
        WordRace x = Due.with(2, "ab;ba");
        x.player(0, 0);
        x.player(1, 1);
        Due.due("pick(0, 0, 0)", x.pick(0, 0, 0), -1);
        Due.due("pick(0, 2, 0)", x.pick(0, 2, 0), -1);
        Due.due("pick(2, 0, 0)", x.pick(2, 0, 0), -1);
        Due.due("pick(-1, 0, 0)", x.pick(-1, 0, 0), -1);
        Due.due("pick(0, -1, 0)", x.pick(0, -1, 0), -1);
        Due.due("pick(0, 1, 2)", x.pick(0, 1, 2), -1);
        Due.due("pick(0, 1, -1)", x.pick(0, 1, -1), -1);
    }

    private static void match() {
        WordRace x = Due.with(2, "bbb;ab;aab");
        x.player(0, 0);
        x.player(4, 1);
        x.player(0, 1);
        x.player(2, 2);
        Due.fraction("bbb and its answer", x.match(0, 1, 0), x.match(0, 1, 1), 1, 8);
        Due.fraction("bbb and ab", x.match(0, 2, 0), x.match(0, 2, 1), 1, 8);
        Due.fraction("ab and bbb", x.match(2, 0, 0), x.match(2, 0, 1), 7, 8);
        Due.fraction("ab and the answerer's aa", x.match(2, 3, 0), x.match(2, 3, 1), 1, 2);
        Due.fraction("baa and its answer", x.match(3, 1, 0), x.match(3, 1, 1), 1, 3);
        x.becomes(1, 22);
        Due.fraction("bb in bbb", x.match(2, 0, 0), x.match(2, 0, 1), Due.NO, Due.NO);
        Due.fraction("bbb has bb", x.match(0, 2, 0), x.match(0, 2, 1), Due.NO, Due.NO);
        Due.due("match(0, 0, 0)", x.match(0, 0, 0), Due.NO);
        Due.due("match(0, 4, 0)", x.match(0, 4, 0), Due.NO);
        Due.due("match(4, 0, 0)", x.match(4, 0, 0), Due.NO);
        Due.due("match(-1, 0, 0)", x.match(-1, 0, 0), Due.NO);
        Due.due("match(0, -1, 0)", x.match(0, -1, 0), Due.NO);
        Due.due("match(0, 1, 2)", x.match(0, 1, 2), Due.NO);
        Due.due("match(0, 1, -1)", x.match(0, 1, -1), Due.NO);
    }

    private static void duel() {
        WordRace x = null;
        int neither = 0;
        int atTheLast = 0;
        for (int seed = -1500; seed < 1500; seed++) {
            if (seed % 50 == 0) x = Due.with(3, "abc;cc;c5;b5");
            String row = Due.drawn(3, seed, 60);
            duelIs(x, 0, 1, seed, row, "abc", "cc");
            duelIs(x, 2, 3, seed, row, "ccccc", "bbbbb");
            if (!row.contains("ccccc") && !row.contains("bbbbb")) neither++;
            else if (x.duel(2, 3, seed, 1) == 60) atTheLast++;
        }
        Due.due("a duel without an end was seen", neither > 0 ? 1 : 0, 1);
        Due.due("a duel that ends by the last letter was seen", atTheLast > 0 ? 1 : 0, 1);
    }

    private static void duelIs(WordRace x, int one, int other, int seed, String row, String first, String second) {
        int firstAt = row.contains(first) ? row.indexOf(first) + first.length() : 61;
        int secondAt = row.contains(second) ? row.indexOf(second) + second.length() : 61;
        int winner = firstAt < secondAt ? 0 : firstAt > secondAt ? 1 : -5;
        String call = "duel(" + one + ", " + other + ", " + seed + ")";
        Due.due(call + " which", x.duel(one, other, seed, 0), winner);
        Due.due(call + " how many", x.duel(one, other, seed, 1), Math.min(60, Math.min(firstAt, secondAt)));
    }

    private static void duelIsWrong() {
        WordRace x = Due.with(2, "ab;aba;aba;b2");
        Due.due("duel(0, 0, 1, 0)", x.duel(0, 0, 1, 0), -1);
        Due.due("duel(0, 4, 1, 0)", x.duel(0, 4, 1, 0), -1);
        Due.due("duel(4, 0, 1, 0)", x.duel(4, 0, 1, 0), -1);
        Due.due("duel(-1, 0, 1, 0)", x.duel(-1, 0, 1, 0), -1);
        Due.due("duel(0, -1, 1, 0)", x.duel(0, -1, 1, 0), -1);
        Due.due("duel(0, 3, 1, 2)", x.duel(0, 3, 1, 2), -1);
        Due.due("duel(0, 3, 1, -1)", x.duel(0, 3, 1, -1), -1);
        Due.due("NONE ahead of STATE", x.duel(0, 1, 1, 2), -1);
        Due.due("the one in the other", x.duel(0, 1, 1, 0), -3);
        Due.due("the other in the one", x.duel(1, 0, 1, 1), -3);
        Due.due("alike ones", x.duel(1, 2, 1, 1), -3);
    }

    private static void odds() {
        int[] seeds = {5, -3, Integer.MAX_VALUE - 3};
        for (int seed : seeds) {
            for (int m = 1; m <= 30; m++) oddsAre(Due.with(2, "aab;bba"), 0, 1, seed, m);
        }
        WordRace x = Due.with(2, "aab;bba;ab;a5");
        int seed = 0;
        while (x.duel(3, 1, seed, 0) == 0) seed++;
        Due.fraction("none of one", x.odds(3, 1, seed, 1, 0), x.odds(3, 1, seed, 1, 1), 0, 1);
        Due.due("odds m 0", x.odds(0, 1, 5, 0, 0), Due.NO);
        Due.due("odds m 31", x.odds(0, 1, 5, 31, 0), Due.NO);
        Due.due("odds m -1", x.odds(0, 1, 5, -1, 0), Due.NO);
        Due.due("odds part 2", x.odds(0, 1, 5, 1, 2), Due.NO);
        Due.due("odds part -1", x.odds(0, 1, 5, 1, -1), Due.NO);
        Due.due("odds one twice", x.odds(0, 0, 5, 1, 0), Due.NO);
        Due.due("odds of no word", x.odds(0, 4, 5, 1, 0), Due.NO);
        Due.due("odds of word -1", x.odds(-1, 0, 5, 1, 0), Due.NO);
        Due.due("odds, the one has the other", x.odds(0, 2, 5, 1, 0), Due.NO);
        Due.due("odds, the one in the other", x.odds(2, 0, 5, 1, 0), Due.NO);
    }

    private static void oddsAre(WordRace x, int one, int other, int seed, int m) {
        int won = 0;
        for (int i = 0; i < m; i++) if (x.duel(one, other, seed + i, 0) == 0) won++;
        int divisor = m;
        while (won % divisor != 0 || m % divisor != 0) divisor--;
        String call = "odds(" + one + ", " + other + ", " + seed + ", " + m + ")";
        Due.fraction(call, x.odds(one, other, seed, m, 0), x.odds(one, other, seed, m, 1), won / divisor, m / divisor);
    }
}
