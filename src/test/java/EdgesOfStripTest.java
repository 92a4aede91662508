/** Each sentence of the document that names an edge of THE STRIP: 'Terms' 2, promises 17 to 24. */
public final class EdgesOfStripTest {
    private static final int LEAST = Integer.MIN_VALUE;
    private static final int MOST = Integer.MAX_VALUE;

    public static void main(String[] args) {
        castTakesLettersOfSides();
        castIsFull();
        castsTakesOneToForty();
        castsGoesTillForty();
        castsAreDrawnAsInts();
        castsAreDrawnOfSides();
        castsBeginAnewWithTheSeed();
        wipeIsHowManyThereWere();
        stripHasPlacesFromNought();
        endsAtTheFirstPlaceThatCanBe();
        endsAtTheLastPlaceThereIs();
        endsNowhere();
        endsOfNoWord();
        firstIsTheLeastPlace();
        seenCountsPlaces();
        matchedGoesFromNoughtToAll();
        matchedOfShortStrip();
        seenIsNone();
        whoIsTheLeastFirst();
        whoIsTheLongestOfLikeOnes();
        whoIsTheLeastNumberOfLikeOnes();
        whoIsNot();
        wereAtTheEnds();
        wereByAllOrNoLetters();
        wereOfSides();
        wereTakesTheLetterThere();
        wereIsNone();
        Due.end();
    }

    private static String letters(WordRace x) {
        StringBuilder text = new StringBuilder();
        int size = x.count(1);
        for (int i = 0; i < size; i++) text.append((char) ('a' + x.strip(i) - 1));
        return text.toString();
    }

    /** "A LETTER (1 .. SIDES)"; "BAD". */
    private static void castTakesLettersOfSides() {
        WordRace x = new WordRace();
        int[] bad = {LEAST, -1, 0, 3, 4, 97, MOST};
        for (int letter : bad) Due.due("cast(" + letter + ") of 2", x.cast(letter), -2);
        Due.due("none came", x.count(1), 0);
        Due.due("cast(1)", x.cast(1), 1);
        Due.due("cast(2)", x.cast(2), 2);
        x.sides(3);
        int[] badOfThree = {LEAST, -1, 0, 4, 5, 99, MOST};
        for (int letter : badOfThree) Due.due("cast(" + letter + ") of 3", x.cast(letter), -2);
        Due.due("cast(3)", x.cast(3), 3);
        Due.text("they came", letters(x), "abc");
    }

    /** "FULL: 40." BAD is named ahead of it. */
    private static void castIsFull() {
        WordRace x = Due.with(3, "");
        for (int i = 1; i <= 40; i++) Due.due("letter " + i, x.cast(1 + i % 3), i);
        for (int letter = 1; letter <= 3; letter++) Due.due("the 41st", x.cast(letter), -4);
        int[] bad = {LEAST, -1, 0, 4, MOST};
        for (int letter : bad) Due.due("cast(" + letter + ") on 40", x.cast(letter), -2);
        Due.due("forty", x.count(1), 40);
        Due.due("place 39", x.strip(39), 2);
        Due.due("place 40", x.strip(40), -1);
    }

    /** "n LETTERS (1 .. 40)"; "BAD". */
    private static void castsTakesOneToForty() {
        int[] bad = {LEAST, -40, -1, 0, 41, 42, 296, MOST};
        WordRace x = new WordRace();
        for (int n : bad) Due.due("casts(" + n + ")", x.casts(n, 7), -2);
        Due.due("none came", x.count(1), 0);
        Due.due("casts(1)", x.casts(1, 7), 1);
        x.wipe();
        Due.due("casts(40)", x.casts(40, 7), 40);
        for (int n : bad) Due.due("casts(" + n + ") on 40", x.casts(n, 7), -2);
        for (int n = 1; n <= 40; n++) {
            WordRace y = new WordRace();
            Due.due("casts(" + n + ")", y.casts(n, -n), n);
        }
    }

    /** "till there are 40: how many it has." */
    private static void castsGoesTillForty() {
        int[] theres = {1, 20, 38, 39, 40};
        for (int there : theres) {
            WordRace x = new WordRace();
            x.casts(there, 5);
            String before = letters(x);
            Due.due("one more on " + there, x.casts(1, 9), Math.min(40, there + 1));
            Due.due("forty more", x.casts(40, 11), 40);
            String drawn = before + (there < 40 ? Due.drawn(2, 9, 1) : "") + Due.drawn(2, 11, 40);
            Due.text("drawn till 40", letters(x), drawn.substring(0, 40));
            Due.due("on 40 nothing comes", x.casts(3, 13), 40);
            Due.text("it stays", letters(x), drawn.substring(0, 40));
        }
    }

    /** "z * 1103515245 + 12345 (an int ..)"; "(z >>> 16) % SIDES": seeds at which it wraps round, or is below 0. */
    private static void castsAreDrawnAsInts() {
        int[] seeds = {LEAST, LEAST + 1, -65536, -2, -1, 0, 1, 2, 65535, 65536, 1103515245, MOST - 1, MOST};
        for (int sides = 2; sides <= 3; sides++) {
            for (int seed : seeds) {
                WordRace x = Due.with(sides, "");
                Due.due("casts(40, " + seed + ")", x.casts(40, seed), 40);
                Due.text("drawn by " + seed + " of " + sides, letters(x), Due.drawn(sides, seed, 40));
            }
        }
        // By hand: 0 becomes 12345, whose upper half is 0; -1 becomes -1103502900, whose upper half is 48697.
        WordRace x = Due.with(3, "");
        x.casts(1, 0);
        x.casts(1, -1);
        Due.due("the first letter by 0", x.strip(0), 1);
        Due.due("the first letter by -1", x.strip(1), 1 + 48697 % 3);
    }

    private static void castsAreDrawnOfSides() {
        boolean[] seen = new boolean[4];
        WordRace x = Due.with(3, "");
        x.casts(40, 1);
        for (int i = 0; i < 40; i++) seen[x.strip(i)] = true;
        Due.due("all three letters of 3", seen[1] && seen[2] && seen[3] ? 1 : 0, 1);
        for (int seed = -100; seed < 100; seed++) {
            WordRace y = new WordRace();
            y.casts(40, seed);
            int past = 0;
            for (int i = 0; i < 40; i++) if (y.strip(i) != 1 && y.strip(i) != 2) past++;
            Due.due("letters past b of 2, by " + seed, past, 0);
        }
    }

    /** "SEED at first": a call does not go on with what one ahead of it drew. */
    private static void castsBeginAnewWithTheSeed() {
        WordRace x = Due.with(3, "");
        x.casts(7, 99);
        x.casts(7, 99);
        Due.text("twice the same", letters(x), Due.drawn(3, 99, 7) + Due.drawn(3, 99, 7));
    }

    /** "how many LETTERS it had." */
    private static void wipeIsHowManyThereWere() {
        WordRace x = Due.with(2, "a");
        Due.due("of none", x.wipe(), 0);
        x.cast(1);
        Due.due("of one", x.wipe(), 1);
        x.casts(40, 1);
        Due.due("of forty", x.wipe(), 40);
        Due.due("none are left", x.count(1), 0);
        Due.due("place 0", x.strip(0), -1);
        Due.due("who", x.who(), -5);
        Due.due("ends", x.ends(0), 0);
        Due.due("seen", x.seen(0, 0), -5);
        Due.due("there is room anew", x.cast(2), 1);
    }

    /** "places from 0"; "NONE". */
    private static void stripHasPlacesFromNought() {
        WordRace x = Due.with(3, "");
        Due.cast(x, "cab");
        int[] due = {3, 1, 2};
        for (int i = 0; i < 3; i++) Due.due("strip(" + i + ")", x.strip(i), due[i]);
        int[] none = {LEAST, -1, 3, 4, 39, 40, 64, MOST};
        for (int place : none) Due.due("strip(" + place + ")", x.strip(place), -1);
    }

    /** "if its LETTERS are those that end there": not ahead of so many letters. */
    private static void endsAtTheFirstPlaceThatCanBe() {
        WordRace x = Due.with(2, "a;aa;a3;a4;a5");
        for (int i = 0; i < 40; i++) {
            for (int w = 0; w < 5; w++) {
                long due = (1L << i) - (1L << Math.min(i, w));
                Due.due(w + 1 + " letters end in " + i, x.ends(w), due);
            }
            x.cast(1);
        }
    }

    private static void endsAtTheLastPlaceThereIs() {
        WordRace x = Due.with(2, "b;ab;a3b;a5");
        for (int i = 0; i < 39; i++) x.cast(1);
        x.cast(2);
        for (int w = 0; w < 3; w++) Due.due("ends(" + w + ")", x.ends(w), 1L << 39);
        Due.due("ends(3)", x.ends(3), (1L << 39) - (1L << 4));
        Due.due("first", x.seen(0, 0), 39);
        Due.due("how many", x.seen(0, 1), 1);
    }

    private static void endsNowhere() {
        WordRace x = Due.with(2, "b5;ab;ba");
        Due.due("in none", x.ends(0), 0);
        Due.cast(x, "bbbba");
        Due.due("b5 in four b", x.ends(0), 0);
        Due.due("ab where ba is", x.ends(1), 0);
        Due.due("ba", x.ends(2), 16);
    }

    /** "NO: no such WORD." */
    private static void endsOfNoWord() {
        WordRace x = Due.with(2, "a;b");
        int[] none = {LEAST, -1, 2, 3, 6, MOST};
        for (int word : none) Due.due("ends(" + word + ")", x.ends(word), Due.NO);
    }

    /** "the least place at which it ENDS"; "NOT: it ENDS nowhere". */
    private static void firstIsTheLeastPlace() {
        WordRace x = Due.with(2, "a;b;aa;bab;b5");
        int[] not = {-5, -5, -5, -5, -5};
        for (int w = 0; w < 5; w++) Due.due("in none, FIRST of " + w, x.seen(w, 0), not[w]);
        Due.cast(x, "ababaabab");
        int[] due = {0, 1, 5, 3, -5};
        for (int w = 0; w < 5; w++) Due.due("FIRST of " + w, x.seen(w, 0), due[w]);
    }

    private static void seenCountsPlaces() {
        WordRace x = Due.with(2, "a;aa;a5;b");
        int[] none = {0, 0, 0, 0};
        for (int w = 0; w < 4; w++) Due.due("in none, places of " + w, x.seen(w, 1), none[w]);
        for (int i = 0; i < 40; i++) x.cast(1);
        int[] due = {40, 39, 36, 0};
        for (int w = 0; w < 4; w++) Due.due("in 40, places of " + w, x.seen(w, 1), due[w]);
    }

    /** "MATCHED goes from 0 to all LETTERS." */
    private static void matchedGoesFromNoughtToAll() {
        String word = "abbab";
        WordRace x = Due.with(2, "abbab;a;b;ababb");
        int[] due = {1, 2, 3, 4, 5};
        for (int i = 0; i < 5; i++) {
            x.cast(word.charAt(i) - 'a' + 1);
            Due.due("MATCHED of " + word + " by " + (i + 1), x.seen(0, 2), due[i]);
        }
        Due.due("MATCHED of a by abbab", x.seen(1, 2), 0);
        Due.due("MATCHED of b by abbab", x.seen(2, 2), 1);
        Due.due("MATCHED of ababb by abbab", x.seen(3, 2), 2);
        x.cast(1);
        Due.due("MATCHED of abbab by abbaba", x.seen(0, 2), 1);
        x.cast(1);
        Due.due("MATCHED of b by abbabaa", x.seen(2, 2), 0);
        WordRace y = Due.with(2, "bbbba");
        for (int i = 0; i < 7; i++) y.cast(2);
        Due.due("the most of several", y.seen(0, 2), 4);
    }

    /** Of no letters and of fewer than the word has. */
    private static void matchedOfShortStrip() {
        WordRace x = Due.with(2, "a5;a;b5;ba4");
        for (int w = 0; w < 4; w++) Due.due("in none, MATCHED of " + w, x.seen(w, 2), 0);
        x.cast(1);
        int[] due = {1, 1, 0, 0};
        for (int w = 0; w < 4; w++) Due.due("in a, MATCHED of " + w, x.seen(w, 2), due[w]);
        x.wipe();
        x.cast(2);
        x.cast(1);
        int[] dueOfTwo = {1, 1, 0, 2};
        for (int w = 0; w < 4; w++) Due.due("in ba, MATCHED of " + w, x.seen(w, 2), dueOfTwo[w]);
    }

    private static void seenIsNone() {
        WordRace x = Due.with(2, "a;b");
        Due.cast(x, "ab");
        int[] none = {LEAST, -1, 2, 3, 6, MOST};
        for (int word : none) for (int what = 0; what < 3; what++) Due.due("seen(" + word + ")", x.seen(word, what), -1);
        int[] whats = {LEAST, -1, 3, 4, MOST};
        for (int what : whats) Due.due("seen(0, " + what + ")", x.seen(0, what), -1);
    }

    /** "of all WORDS that of the least FIRST": be it the shortest and the last one. */
    private static void whoIsTheLeastFirst() {
        WordRace x = Due.with(2, "a5;ab2;ba;bb;ab;b");
        Due.cast(x, "b");
        Due.due("b", x.who(), 5);
        x.cast(2);
        Due.due("still b", x.who(), 5);
        x.becomes(5, 21);
        Due.due("bb", x.who(), 3);
        x.becomes(3, 11);
        Due.due("none", x.who(), -5);
        Due.cast(x, "a");
        Due.due("ba, the first told", x.who(), 2);
    }

    /** "of like ones that of most LETTERS". */
    private static void whoIsTheLongestOfLikeOnes() {
        WordRace x = Due.with(2, "b;ab;aab;a3b;a4b");
        Due.cast(x, "aaaab");
        Due.due("of five lengths", x.who(), 4);
        int[] shorter = {3, 2, 1, 0};
        for (int i = 0; i < 4; i++) {
            x.becomes(4 - i, 22222);
            Due.due("of " + (4 - i) + " lengths", x.who(), shorter[i]);
        }
        WordRace y = Due.with(2, "a4b;a3b;aab;ab;b");
        Due.cast(y, "aaaab");
        Due.due("the longest is the first told", y.who(), 0);
        WordRace z = Due.with(2, "aab;ab;a");
        Due.cast(z, "aab");
        Due.due("an earlier one is ahead of a longer one", z.who(), 2);
    }

    /** "then the least number". */
    private static void whoIsTheLeastNumberOfLikeOnes() {
        WordRace x = Due.with(2, "b;ab;b;ab;ab;b");
        Due.cast(x, "ab");
        Due.due("of three alike ones", x.who(), 1);
        x.becomes(1, 11);
        Due.due("of two", x.who(), 3);
        x.becomes(3, 11);
        Due.due("of one", x.who(), 4);
        x.becomes(4, 11);
        Due.due("of three shorter ones", x.who(), 0);
    }

    /** "NOT: none ENDS." */
    private static void whoIsNot() {
        WordRace x = new WordRace();
        Due.due("no words, no strip", x.who(), -5);
        x.casts(40, 7);
        Due.due("no words", x.who(), -5);
        WordRace y = Due.with(2, "aa;ab");
        Due.due("no strip", y.who(), -5);
        Due.cast(y, "bbba");
        Due.due("none ends", y.who(), -5);
    }

    private static void were(WordRace x, int place, int word, int due) {
        Due.due("were(" + place + ", " + word + ")", x.were(place, word), due);
    }

    /** The first and the last place, of one letter and of forty. */
    private static void wereAtTheEnds() {
        WordRace x = Due.with(2, "a;b;bb");
        x.cast(1);
        were(x, 0, 0, 1);
        were(x, 0, 1, 2);
        were(x, 0, 2, 0);
        x.becomes(0, 22);
        x.becomes(1, 21);
        for (int i = 0; i < 39; i++) x.cast(1);
        were(x, 0, 1, 2);
        were(x, 39, 1, 0);
        were(x, 38, 1, 2);
        were(x, 39, 0, 0);
        x.becomes(1, 12);
        were(x, 39, 1, 2);
        were(x, 0, 1, 0);
        were(x, 0, 0, 0);
    }

    /** "bits": none, one, all. */
    private static void wereByAllOrNoLetters() {
        WordRace x = Due.with(3, "ab;c;a");
        Due.cast(x, "abb");
        were(x, 2, 0, 0);
        were(x, 2, 1, 0);
        were(x, 2, 2, 7);
        were(x, 0, 2, 1);
        were(x, 0, 1, 4);
        x.becomes(2, 222);
        were(x, 2, 0, 7);
        were(x, 1, 0, 3);
        were(x, 1, 1, 4);
    }

    /** "bit 0 a": of SIDES as they are, c only with three. */
    private static void wereOfSides() {
        WordRace x = Due.with(2, "b");
        Due.cast(x, "ab");
        were(x, 0, 0, 3);
        were(x, 1, 0, 2);
        x.sides(3);
        were(x, 0, 0, 7);
        were(x, 1, 0, 2);
    }

    /** It counts, too, by which the word is WHO already; the strip stays. */
    private static void wereTakesTheLetterThere() {
        WordRace x = Due.with(2, "ab;ba");
        Due.cast(x, "ab");
        were(x, 0, 0, 1);
        were(x, 1, 0, 2);
        were(x, 0, 1, 0);
        were(x, 1, 1, 0);
        Due.due("who stays", x.who(), 0);
        Due.text("the strip stays", letters(x), "ab");
    }

    /** "NONE: the place, the WORD." */
    private static void wereIsNone() {
        WordRace x = Due.with(2, "a;b");
        were(x, 0, 0, -1);
        Due.cast(x, "ab");
        int[] places = {LEAST, -1, 2, 3, 39, 40, 64, MOST};
        for (int place : places) were(x, place, 0, -1);
        int[] words = {LEAST, -1, 2, 3, 6, MOST};
        for (int word : words) were(x, 1, word, -1);
        were(x, 2, 2, -1);
        WordRace y = new WordRace();
        y.cast(1);
        were(y, 0, 0, -1);
    }
}
