/** Each sentence of the document that names an edge of PLAYERS, MATCHES, DUELS and ODDS: 'Terms' 2, promises 25 to 30. */
public final class EdgesOfPlayersTest {
    private static final int LEAST = Integer.MIN_VALUE;
    private static final int MOST = Integer.MAX_VALUE;
    private static final int[] NO_PLAYERS = {LEAST, -1, 2, 3, 4, MOST};
    private static final int[] NO_PARTS = {LEAST, -1, 2, 3, MOST};

    public static void main(String[] args) {
        playersAreFour();
        playerIsNone();
        playerIsNoneAheadOfFull();
        playersMayBeAlike();
        playerOfIsNone();
        winsCountMoreThanAHalf();
        winsNeedAChance();
        winsPickFirst();
        winsOfFour();
        pickOfOneLetter();
        pickOfTwoLetters();
        pickOfFiveLetters();
        answererHasTheLettersOfTheOther();
        keenHasTheLettersOfTheOther();
        oneOnGoesRound();
        whoPicksFirstTakesHisOwn();
        stayersStay();
        pickIsNone();
        matchIsNoPlayers();
        matchIsNoPart();
        matchOfOneInTheOther();
        duelOfSixtyLetters();
        duelOfOneLetter();
        duelOfEachOrder();
        duelIsNone();
        duelIsState();
        oddsOfOneToThirtySeeds();
        oddsInLowestTerms();
        oddsOfSeedsThatWrapRound();
        oddsAreNo();
        Due.end();
    }

    /** "PLAYERS 0 .. 3, as they come"; "FULL: four." */
    private static void playersAreFour() {
        WordRace x = Due.with(2, "ab;ba");
        for (int p = 0; p < 4; p++) {
            Due.due("ahead of player " + p, x.playerOf(p, 0), -1);
            Due.due("player " + p, x.player(p, p % 2), p);
            Due.due("how many", x.count(2), p + 1);
        }
        for (int kind = 0; kind < 6; kind++) Due.due("a fifth", x.player(kind, 0), -4);
        Due.due("four", x.count(2), 4);
        for (int p = 0; p < 4; p++) {
            Due.due("kind of " + p, x.playerOf(p, 0), p);
            Due.due("word of " + p, x.playerOf(p, 1), p % 2);
        }
        Due.due("no fifth", x.playerOf(4, 0), -1);
    }

    /** "NONE: kind, word". */
    private static void playerIsNone() {
        WordRace x = Due.with(2, "ab;ba");
        int[] kinds = {LEAST, -1, 6, 7, 256, MOST};
        for (int kind : kinds) Due.due("player(" + kind + ", 0)", x.player(kind, 0), -1);
        int[] words = {LEAST, -1, 2, 5, 6, 256, MOST};
        for (int word : words) Due.due("player(0, " + word + ")", x.player(0, word), -1);
        Due.due("none came", x.count(2), 0);
        Due.due("player(5, 1)", x.player(5, 1), 0);
        Due.due("without words", new WordRace().player(0, 0), -1);
    }

    private static void playerIsNoneAheadOfFull() {
        WordRace x = Due.with(2, "ab;ba");
        for (int p = 0; p < 4; p++) x.player(0, 0);
        Due.due("no kind", x.player(6, 0), -1);
        Due.due("no kind", x.player(-1, 0), -1);
        Due.due("no word", x.player(0, 2), -1);
        Due.due("no word", x.player(0, -1), -1);
        Due.due("full", x.player(0, 1), -4);
    }

    private static void playersMayBeAlike() {
        WordRace x = Due.with(2, "ab");
        for (int p = 0; p < 4; p++) Due.due("player " + p, x.player(3, 0), p);
        Due.due("they pick alike", x.pick(0, 3, 0), x.pick(3, 0, 0));
        Due.due("and none wins", x.playerOf(2, 2), 0);
    }

    private static void playerOfIsNone() {
        WordRace x = Due.with(2, "ab;ba");
        Due.due("ahead of all", x.playerOf(0, 0), -1);
        x.player(0, 0);
        x.player(1, 1);
        for (int player : NO_PLAYERS) {
            for (int what = 0; what < 3; what++) Due.due("playerOf(" + player + ")", x.playerOf(player, what), -1);
        }
        int[] whats = {LEAST, -1, 3, 4, MOST};
        for (int what : whats) Due.due("playerOf(1, " + what + ")", x.playerOf(1, what), -1);
        Due.due("playerOf(1, 1)", x.playerOf(1, 1), 1);
    }

    /** "how many others there are against whom .. that is more than a half": a half isn't. */
    private static void winsCountMoreThanAHalf() {
        WordRace x = Due.with(2, "ab;ba;aa;bb");
        x.player(0, 0);
        Due.due("alone", x.playerOf(0, 2), 0);
        x.player(0, 1);
        Due.due("ab against ba: a half", x.playerOf(0, 2), 0);
        x.player(0, 2);
        Due.due("ab against aa: a half", x.playerOf(0, 2), 0);
        Due.due("ba against aa: more", x.playerOf(1, 2), 1);
        Due.due("aa against ba: less", x.playerOf(2, 2), 0);
        x.player(0, 3);
        Due.due("ab against bb: more", x.playerOf(0, 2), 1);
        Due.due("aa against bb: a half", x.playerOf(2, 2), 0);
    }

    /** "(there being one)". */
    private static void winsNeedAChance() {
        WordRace x = Due.with(2, "b;ab;b;b5");
        x.player(0, 0);
        x.player(0, 1);
        x.player(0, 2);
        x.player(0, 3);
        for (int p = 0; p < 4; p++) {
            Due.due("b in ab, b, b5", x.playerOf(p, 2), p == 1 ? 1 : 0);
        }
        Due.fraction("ab against b5", x.match(1, 3, 0), x.match(1, 3, 1), 31, 32);
    }

    /** "he PICKING first": his own word is o for him, and his pick is o for the other. */
    private static void winsPickFirst() {
        WordRace x = Due.with(2, "abb;aab");
        x.player(0, 0);
        x.player(2, 1);
        Due.due("the answerer to abb picks aab", x.pick(0, 1, 1), 112);
        Due.due("abb does not beat it", x.playerOf(0, 2), 0);
        Due.due("the answerer first picks baa", x.pick(1, 0, 0), 211);
        Due.fraction("baa against abb", x.match(1, 0, 0), x.match(1, 0, 1), 1, 2);
        Due.due("no more than a half", x.playerOf(1, 2), 0);
        x.becomes(1, 122);
        Due.due("now he picks aab", x.pick(1, 0, 0), 112);
        Due.due("and wins", x.playerOf(1, 2), 1);
    }

    /** Against none, one, two, three others. */
    private static void winsOfFour() {
        WordRace x = Due.with(2, "b5;b4a;b3;bba;bb");
        int[] due = {0, 0, 0, 0};
        for (int p = 0; p < 4; p++) x.player(0, 0);
        for (int p = 0; p < 4; p++) Due.due("alike ones", x.playerOf(p, 2), due[p]);
        WordRace y = Due.with(2, "a;b5;ab4;bab3");
        for (int p = 0; p < 4; p++) y.player(0, p);
        Due.due("a against b5, and two that it is in", y.playerOf(0, 2), 1);
        Due.due("b5 against none", y.playerOf(1, 2), 0);
        Due.due("ab4 against b5", y.playerOf(2, 2), 1);
        Due.due("bab3 against b5, ab4", y.playerOf(3, 2), 2);
        WordRace z = Due.with(2, "a2;b5;b4a;bab3");
        for (int p = 0; p < 4; p++) z.player(0, p);
        Due.due("aa against three", z.playerOf(0, 2), 3);
    }

    private static void picks(int sides, String words, int kind, int first, int second) {
        WordRace x = Due.with(sides, words);
        x.player(kind, 0);
        x.player(0, x.count(0) - 1);
        Due.due("kind " + kind + " of " + words + " first", x.pick(0, 1, 0), first);
        Due.due("kind " + kind + " of " + words + " behind", x.pick(1, 0, 1), second);
    }

    /** "the second LETTER of o (the only one of a word of one)"; a doubler of one letter puts it for itself. */
    private static void pickOfOneLetter() {
        int[] two = {1, 1, 2, 2, 2, 2};
        int[] three = {3, 3, 1, 1, 1, 1};
        for (int kind = 0; kind < 6; kind++) {
            picks(2, "a", kind, two[kind], two[kind]);
            picks(3, "c", kind, three[kind], three[kind]);
        }
        picks(2, "ab;b", 2, 11, 1);
        picks(2, "b;ba", 2, 1, 22);
        picks(3, "b;ca", 2, 3, 23);
    }

    private static void pickOfTwoLetters() {
        int[] two = {12, 21, 11, 12, 11, 11};
        int[] three = {23, 32, 12, 13, 12, 11};
        for (int kind = 0; kind < 6; kind++) {
            picks(2, "ab", kind, two[kind], two[kind]);
            picks(3, "bc", kind, three[kind], three[kind]);
        }
    }

    private static void pickOfFiveLetters() {
        int[] two = {11222, 22211, 21122, 11122, 11122, 11112};
        for (int kind = 0; kind < 6; kind++) picks(2, "aab3", kind, two[kind], two[kind]);
        int[] three = {12333, 33321, 31233, 11132, 11233, 11113};
        for (int kind = 0; kind < 6; kind++) picks(3, "abc3", kind, three[kind], three[kind]);
    }

    /** "An answerer's PICK has as many LETTERS as o." */
    private static void answererHasTheLettersOfTheOther() {
        picks(2, "a5;ab", 2, 21111, 11);
        picks(2, "ab;a5", 2, 11, 21111);
        picks(2, "ab;abbab", 2, 11, 11221);
        picks(3, "a;bca", 2, 2, 123);
    }

    /** "BEST ANSWER to o": of as many LETTERS as o has. */
    private static void keenHasTheLettersOfTheOther() {
        picks(2, "a5;ab", 4, 21111, 11);
        picks(2, "ab;a5", 4, 11, 21111);
        picks(2, "a3;b", 4, 211, 1);
    }

    /** "b of a, and so on; behind the last of SIDES a". */
    private static void oneOnGoesRound() {
        picks(2, "abbab", 3, 12112, 12112);
        picks(3, "abcab", 3, 32132, 32132);
        picks(3, "abbab", 3, 32332, 32332);
        picks(2, "ba", 5, 22, 22);
        picks(3, "ca", 5, 22, 22);
        picks(3, "ac", 5, 11, 11);
        picks(2, "abb", 2, 112, 112);
        picks(3, "abb", 2, 312, 312);
        picks(3, "acb", 2, 113, 113);
    }

    /** "(who picks first takes his own WORD for o)". */
    private static void whoPicksFirstTakesHisOwn() {
        int[] others = {2, 4};
        for (int kind : others) {
            WordRace x = Due.with(2, "aab;bba");
            x.player(kind, 0);
            x.player(kind, 1);
            Due.due("kind " + kind + ", he first", x.pick(0, 1, 0), 211);
            Due.due("the other, behind", x.pick(0, 1, 1), 221);
            Due.due("the other first", x.pick(1, 0, 0), 122);
            Due.due("he, behind", x.pick(1, 0, 1), 112);
        }
    }

    /** Kinds under stayer and turner pick for their own word, first or behind. */
    private static void stayersStay() {
        int[] kinds = {0, 1, 3, 5};
        int[] due = {122, 221, 112, 111};
        for (int i = 0; i < kinds.length; i++) {
            WordRace x = Due.with(2, "abb;ba");
            x.player(kinds[i], 0);
            x.player(0, 1);
            x.player(4, 1);
            Due.due("kind " + kinds[i] + " first", x.pick(0, 1, 0), due[i]);
            Due.due("kind " + kinds[i] + " behind ba", x.pick(1, 0, 1), due[i]);
            Due.due("kind " + kinds[i] + " behind bb", x.pick(2, 0, 1), due[i]);
        }
    }

    /** "NONE: players (one twice), what." */
    private static void pickIsNone() {
        WordRace x = Due.with(2, "ab;ba");
        x.player(0, 0);
        Due.due("one player alone", x.pick(0, 1, 0), -1);
        x.player(0, 1);
        for (int player : NO_PLAYERS) {
            Due.due("pick(0, " + player + ")", x.pick(0, player, 0), -1);
            Due.due("pick(" + player + ", 1)", x.pick(player, 1, 1), -1);
        }
        for (int one = 0; one < 2; one++) for (int what = 0; what < 2; what++) Due.due("one twice", x.pick(one, one, what), -1);
        int[] whats = {LEAST, -1, 2, 3, MOST};
        for (int what : whats) Due.due("pick(0, 1, " + what + ")", x.pick(0, 1, what), -1);
        Due.due("pick(1, 0, 1)", x.pick(1, 0, 1), 12);
    }

    private static void match(WordRace x, int one, int other, long above, long below) {
        Due.fraction("match(" + one + ", " + other + ")", x.match(one, other, 0), x.match(one, other, 1), above, below);
    }

    /** "NO: players (one twice) ..". */
    private static void matchIsNoPlayers() {
        WordRace x = Due.with(2, "ab;bb");
        x.player(0, 0);
        match(x, 0, 1, Due.NO, Due.NO);
        x.player(0, 1);
        for (int player : NO_PLAYERS) {
            match(x, 0, player, Due.NO, Due.NO);
            match(x, player, 1, Due.NO, Due.NO);
        }
        match(x, 0, 0, Due.NO, Due.NO);
        match(x, 1, 1, Due.NO, Due.NO);
        match(x, 0, 1, 3, 4);
        match(x, 1, 0, 1, 4);
    }

    private static void matchIsNoPart() {
        WordRace x = Due.with(2, "ab;bb");
        x.player(0, 0);
        x.player(0, 1);
        for (int part : NO_PARTS) Due.due("match part " + part, x.match(0, 1, part), Due.NO);
    }

    /** "NO: .. one PICK is IN the other": either way, and alike ones. */
    private static void matchOfOneInTheOther() {
        WordRace x = Due.with(2, "ab;babb;ab;b");
        for (int p = 0; p < 4; p++) x.player(0, p);
        for (int one = 0; one < 4; one++) {
            for (int other = 0; other < 4; other++) match(x, one, other, Due.NO, Due.NO);
        }
        WordRace y = Due.with(2, "aab");
        y.player(4, 0);
        y.player(2, 0);
        y.player(0, 0);
        match(y, 0, 1, 1, 3);
        Due.due("keen picks baa behind aab", y.pick(2, 0, 1), 211);
        Due.due("the answerer, too", y.pick(2, 1, 1), 211);
        Due.due("keen first: baa", y.pick(0, 2, 0), 211);
        match(y, 0, 2, 3, 4);
    }

    private static void duel(WordRace x, int one, int other, int seed, int which, int howMany) {
        Due.due("duel(" + one + ", " + other + ", " + seed + ") which", x.duel(one, other, seed, 0), which);
        Due.due("duel(" + one + ", " + other + ", " + seed + ") how many", x.duel(one, other, seed, 1), howMany);
    }

    /** "60 at most"; "NOT: neither by then"; "A DUEL in which neither ENDS tells 60." */
    private static void duelOfSixtyLetters() {
        WordRace x = Due.with(3, "c5;b5");
        drawnTo(3, 724, 60, "ccccc");
        duel(x, 0, 1, 724, 0, 60);
        duel(x, 1, 0, 724, 1, 60);
        drawnTo(3, 6, 60, "bbbbb");
        duel(x, 0, 1, 6, 1, 60);
        duel(x, 1, 0, 6, 0, 60);
        drawnTo(3, 23, 61, "ccccc");
        duel(x, 0, 1, 23, -5, 60);
        duel(x, 1, 0, 23, -5, 60);
        WordRace y = Due.with(2, "a5;b5");
        drawnTo(2, 140, 60, "aaaaa");
        duel(y, 0, 1, 140, 0, 60);
        drawnTo(2, 624, 60, "bbbbb");
        duel(y, 0, 1, 624, 1, 60);
        drawnTo(2, 200, 61, "aaaaa");
        duel(y, 0, 1, 200, -5, 60);
        drawnTo(2, 267, 61, "bbbbb");
        duel(y, 1, 0, 267, -5, 60);
    }

    /** That a row drawn has five alike letters of these two first by so many letters. */
    private static void drawnTo(int sides, int seed, int letters, String word) {
        String row = Due.drawn(sides, seed, letters);
        Due.due("drawn by " + seed, row.indexOf(word), letters - 5);
    }

    /** The shortest duel. */
    private static void duelOfOneLetter() {
        for (int sides = 2; sides <= 3; sides++) {
            WordRace x = Due.with(sides, "a;b");
            int[] seeds = {LEAST, -7, -1, 0, 1, 5, MOST};
            for (int seed : seeds) {
                String row = Due.drawn(sides, seed, 60);
                int first = row.indexOf('a');
                int second = row.indexOf('b');
                duel(x, 0, 1, seed, first < second ? 0 : 1, 1 + Math.min(first, second));
            }
        }
    }

    /** "which (0 the one, 1 the other one ..)": as they are told, not by their numbers. */
    private static void duelOfEachOrder() {
        WordRace x = Due.with(2, "aab;bba;a5");
        for (int seed = 0; seed < 40; seed++) {
            int which = x.duel(0, 1, seed, 0);
            Due.due("told the other way, " + seed, x.duel(1, 0, seed, 0), 1 - which);
            Due.due("how many, " + seed, x.duel(1, 0, seed, 1), x.duel(0, 1, seed, 1));
        }
    }

    /** "NONE: words (one twice), what". */
    private static void duelIsNone() {
        WordRace x = Due.with(2, "ab;ba;aba");
        int[] none = {LEAST, -1, 3, 4, 6, MOST};
        for (int word : none) {
            Due.due("duel(0, " + word + ")", x.duel(0, word, 1, 0), -1);
            Due.due("duel(" + word + ", 1)", x.duel(word, 1, 1, 1), -1);
        }
        for (int word = 0; word < 3; word++) Due.due("one twice", x.duel(word, word, 1, 0), -1);
        int[] whats = {LEAST, -1, 2, 3, MOST};
        for (int what : whats) {
            Due.due("duel what " + what, x.duel(0, 1, 1, what), -1);
            Due.due("NONE ahead of STATE, what " + what, x.duel(0, 2, 1, what), -1);
        }
    }

    /** "STATE: one is IN the other." */
    private static void duelIsState() {
        WordRace x = Due.with(2, "ab;aba;ab;b");
        for (int one = 0; one < 4; one++) {
            for (int other = 0; other < 4; other++) {
                if (one == other) continue;
                for (int what = 0; what < 2; what++) Due.due("one in the other", x.duel(one, other, 1, what), -3);
            }
        }
        x.becomes(3, 11);
        Due.due("aa and aba", x.duel(3, 1, 1, 1) > 1 ? 1 : 0, 1);
    }

    private static int won(int seed, int m) {
        int won = 0;
        for (int i = 0; i < m; i++) {
            String row = Due.drawn(2, seed + i, 60);
            int first = row.indexOf("aab");
            int second = row.indexOf("bba");
            if (first >= 0 && (second < 0 || first < second)) won++;
        }
        return won;
    }

    private static void oddsAre(int seed, int m) {
        int won = won(seed, m);
        int divisor = m;
        while (won % divisor != 0 || m % divisor != 0) divisor--;
        WordRace x = Due.with(2, "aab;bba");
        String call = "odds(0, 1, " + seed + ", " + m + ")";
        Due.fraction(call, x.odds(0, 1, seed, m, 0), x.odds(0, 1, seed, m, 1), won / divisor, m / divisor);
    }

    /** "of m SEEDS (1 .. 30), SEED and each 1 more". */
    private static void oddsOfOneToThirtySeeds() {
        for (int seed = -200; seed < 200; seed += 7) for (int m = 1; m <= 30; m++) oddsAre(seed, m);
    }

    /** "in lowest terms (0: 0 by 1)"; all of them: 1 by 1. Neither ending is not won. */
    private static void oddsInLowestTerms() {
        WordRace x = Due.with(2, "a5;b2;b5");
        Due.fraction("none of 30", x.odds(0, 1, 386, 30, 0), x.odds(0, 1, 386, 30, 1), 0, 1);
        Due.fraction("all of 30", x.odds(1, 0, 386, 30, 0), x.odds(1, 0, 386, 30, 1), 1, 1);
        Due.due("neither ends by 200", x.duel(0, 2, 200, 0), -5);
        Due.fraction("neither ends", x.odds(0, 2, 200, 1, 0), x.odds(0, 2, 200, 1, 1), 0, 1);
        Due.fraction("neither ends", x.odds(2, 0, 200, 1, 0), x.odds(2, 0, 200, 1, 1), 0, 1);
    }

    /** "(an int)". */
    private static void oddsOfSeedsThatWrapRound() {
        for (int ahead = 0; ahead < 30; ahead++) {
            oddsAre(MOST - ahead, 30);
            oddsAre(MOST - ahead, ahead + 1);
            oddsAre(-1 - ahead, 30);
            oddsAre(LEAST + ahead, 30);
        }
    }

    /** "NO: words (one twice), m, part; one is IN the other." */
    private static void oddsAreNo() {
        WordRace x = Due.with(2, "ab;ba;aba;ab");
        int[] none = {LEAST, -1, 4, 6, MOST};
        for (int word : none) {
            Due.due("odds(0, " + word + ")", x.odds(0, word, 1, 5, 0), Due.NO);
            Due.due("odds(" + word + ", 1)", x.odds(word, 1, 1, 5, 1), Due.NO);
        }
        int[] badM = {LEAST, -30, -1, 0, 31, 32, MOST};
        for (int m : badM) for (int part = 0; part < 2; part++) Due.due("odds m " + m, x.odds(0, 1, 1, m, part), Due.NO);
        for (int part : NO_PARTS) Due.due("odds part " + part, x.odds(0, 1, 1, 5, part), Due.NO);
        for (int word = 0; word < 4; word++) Due.due("one twice", x.odds(word, word, 1, 5, 1), Due.NO);
        int[][] within = {{0, 2}, {2, 0}, {1, 2}, {2, 1}, {0, 3}, {3, 0}, {3, 2}};
        for (int[] two : within) {
            for (int part = 0; part < 2; part++) Due.due("one in the other", x.odds(two[0], two[1], 1, 5, part), Due.NO);
        }
    }
}
