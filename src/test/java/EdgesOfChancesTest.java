import java.math.BigInteger;

/** Each sentence of the document that names an edge of chances, trails, rings and fields: promises 10 to 16. */
public final class EdgesOfChancesTest {
    private static final int LEAST = Integer.MIN_VALUE;
    private static final int MOST = Integer.MAX_VALUE;
    private static final int[] NO_PARTS = {LEAST, -1, 2, 3, MOST};

    public static void main(String[] args) {
        chanceOfShortAndLong();
        chanceOfOneInTheOther();
        chanceOfNoWord();
        chanceOfNoPart();
        answeredHasEdges();
        answeredIsNo();
        trailHasEdges();
        trailIsNone();
        ringHasThreeOrMore();
        ringMayHaveAllWords();
        ringIsTheShortest();
        ringIsTheFirstRow();
        ringNeedsMoreThanAHalf();
        ringClosesOneWay();
        ringOfAlikeWords();
        ringHasNotSoMany();
        fieldHasTwoToFour();
        fieldOfBitsOfNone();
        fieldOfWordNotInIt();
        fieldOfNoPart();
        fieldOfOneInAnother();
        chancesAndMeanAreAsTold();
        meanHasEdges();
        meanIsNo();
        withinOfNoThrows();
        withinOfAllThrows();
        withinOfOneToFour();
        withinCountsEachRowOnce();
        withinIsNone();
        withinIsBad();
        withinIsState();
        withinIsWhatIsNamedFirst();
        Due.end();
    }

    private static void chance(WordRace x, int one, int other, long above, long below) {
        Due.fraction("chance(" + one + ", " + other + ")", x.chance(one, other, 0), x.chance(one, other, 1), above, below);
    }

    /** The longest row against the shortest: a of five is missed by chance of 1 by 32. */
    private static void chanceOfShortAndLong() {
        WordRace x = Due.with(2, "b;a5;baaaa;a");
        chance(x, 0, 1, 31, 32);
        chance(x, 1, 0, 1, 32);
        chance(x, 1, 2, 1, 32);
        chance(x, 2, 1, 31, 32);
        chance(x, 0, 3, 1, 2);
        x.sides(3);
        chance(x, 0, 1, 121, 122);
        chance(x, 1, 0, 1, 122);
        chance(x, 0, 3, 1, 2);
    }

    /** "NO: .. one is IN the other (the same one, too)." */
    private static void chanceOfOneInTheOther() {
        WordRace x = Due.with(2, "abab;ba;ab;bab;abab;aa");
        for (int other = 0; other < 5; other++) {
            chance(x, 0, other, Due.NO, Due.NO);
            chance(x, other, 0, Due.NO, Due.NO);
            chance(x, other, other, Due.NO, Due.NO);
        }
        chance(x, 0, 5, 1, 6);
        chance(x, 5, 0, 5, 6);
    }

    private static void chanceOfNoWord() {
        WordRace x = Due.with(2, "ab;b2");
        int[] none = {LEAST, -1, 2, 6, MOST};
        for (int word : none) {
            chance(x, 0, word, Due.NO, Due.NO);
            chance(x, word, 0, Due.NO, Due.NO);
            chance(x, word, word, Due.NO, Due.NO);
        }
    }

    private static void chanceOfNoPart() {
        WordRace x = Due.with(2, "ab;b2");
        for (int part : NO_PARTS) Due.due("chance part " + part, x.chance(0, 1, part), Due.NO);
        chance(x, 0, 1, 3, 4);
    }

    private static void answered(WordRace x, int word, long above, long below) {
        Due.fraction("answered(" + word + ")", x.answered(word, 0), x.answered(word, 1), above, below);
    }

    private static void answeredHasEdges() {
        WordRace x = Due.with(2, "a;b;a5;b5;ab;ba");
        answered(x, 0, 1, 2);
        answered(x, 1, 1, 2);
        answered(x, 2, 31, 32);
        answered(x, 3, 31, 32);
        answered(x, 4, 1, 2);
        answered(x, 5, 1, 2);
        x.sides(3);
        answered(x, 0, 1, 2);
        answered(x, 2, 121, 162);
        answered(x, 3, 121, 162);
        x.becomes(0, 3);
        answered(x, 0, 1, 2);
    }

    private static void answeredIsNo() {
        WordRace x = Due.with(2, "ab;b2");
        int[] none = {LEAST, -1, 2, 6, MOST};
        for (int word : none) answered(x, word, Due.NO, Due.NO);
        for (int part : NO_PARTS) Due.due("answered part " + part, x.answered(0, part), Due.NO);
    }

    private static void trail(int sides, int number, int unlike, int again) {
        WordRace x = Due.with(sides, "a");
        Due.due("becomes " + number, x.becomes(0, number), 1);
        Due.due("trail of " + number + ", unlike", x.trail(0, 0), unlike);
        Due.due("trail of " + number + ", again", x.trail(0, 1), again);
    }

    /** The shortest trails, the longest ones; those of which all come again, and of which most don't. */
    private static void trailHasEdges() {
        trail(2, 1, 2, 2);
        trail(2, 2, 2, 2);
        trail(2, 12, 3, 3);
        trail(2, 21, 3, 3);
        trail(2, 22, 4, 3);
        trail(2, 21122, 13, 8);
        trail(3, 2, 2, 2);
        trail(3, 3, 3, 2);
        trail(3, 31331, 20, 9);
        trail(3, 1331, 16, 7);
    }

    private static void trailIsNone() {
        WordRace x = Due.with(2, "ab;b2");
        int[] none = {LEAST, -1, 2, 6, MOST};
        for (int word : none) for (int what = 0; what < 2; what++) Due.due("trail(" + word + ")", x.trail(word, what), -1);
        int[] whats = {LEAST, -1, 2, 3, MOST};
        for (int what : whats) Due.due("trail(0, " + what + ")", x.trail(0, what), -1);
    }

    private static void ringIs(WordRace x, String name, int... ring) {
        Due.due("how many of " + name, x.ring(-1), ring.length == 0 ? -5 : ring.length);
        for (int k = 0; k < 7; k++) Due.due("ring(" + k + ") of " + name, x.ring(k), k < ring.length ? ring[k] : -5);
    }

    /** "a row of three or more". */
    private static void ringHasThreeOrMore() {
        ringIs(new WordRace(), "no words");
        ringIs(Due.with(2, "a"), "one word");
        ringIs(Due.with(2, "abb;aab"), "two words");
        ringIs(Due.with(2, "bbab;babb;abba"), "just three", 0, 1, 2);
        ringIs(Due.with(2, "bbab;babb"), "three less one");
    }

    /** Rings of four, of five, of six words, and no shorter one. */
    private static void ringMayHaveAllWords() {
        ringIs(Due.with(2, "aab;abb;bba;baa"), "four", 0, 1, 2, 3);
        ringIs(Due.with(3, "c2b;cac;a2b;cba;cbb;ac2"), "five", 0, 3, 2, 1, 5);
        WordRace x = Due.with(2, "baab;bab2;ab2a;baba;ab3;abab");
        Due.due("ab2a becomes aba2", x.becomes(2, 1211), 1221);
        ringIs(x, "six", 0, 5, 1, 4, 3, 2);
        for (int word = 0; word < 6; word++) {
            int before = x.becomes(word, 1111);
            ringIs(x, "six less " + word);
            x.becomes(word, before);
        }
    }

    /** "the shortest such". */
    private static void ringIsTheShortest() {
        ringIs(Due.with(2, "aab2a;b2a2b;ba2b2;ab3a;babab;b3a2"), "a shorter one without word 0", 1, 2, 3);
        WordRace x = Due.with(3, "acb;abb;bca;aac;cbc;bab");
        closes(x, 0, 4, 2, 3);
        ringIs(x, "a longer one comes ahead as a row", 2, 3, 4);
        WordRace y = Due.with(2, "ba4;ba2ba;ba4;a4b;aba3;ba2ba");
        closes(y, 0, 3, 1, 4);
        ringIs(y, "a longer one comes ahead as a row", 1, 4, 3);
    }

    /** Whether each of the row beats the next one, the last one the first. */
    private static void closes(WordRace x, int... row) {
        for (int i = 0; i < row.length; i++) {
            int one = row[i];
            int next = row[(i + 1) % row.length];
            Due.due(one + " beats " + next, 2 * x.chance(one, next, 0) > x.chance(one, next, 1) ? 1 : 0, 1);
        }
    }

    /** "of like ones the first as a row". */
    private static void ringIsTheFirstRow() {
        ringIs(Due.with(2, "bbaa;babb;ba3;babb;a3;a3b"), "041 043 051 053", 0, 4, 1);
        ringIs(Due.with(2, "babb;bbaa;abba;aaa;babb;abbb"), "013 132 134 135", 0, 1, 3);
        ringIs(Due.with(2, "b4;bab3;b3aa;a3bb;abbab;aabab"), "041 124 125", 0, 4, 1);
        ringIs(Due.with(2, "abba;babb;bbab"), "a ring told from its least word", 0, 2, 1);
        ringIs(Due.with(2, "babb;bbab;abba"), "a ring told from its least word", 0, 2, 1);
    }

    /** "CHANCE is more than a half": a half isn't. */
    private static void ringNeedsMoreThanAHalf() {
        WordRace x = Due.with(2, "b3a;bbab;b4");
        chance(x, 2, 0, 1, 2);
        Due.due("more than a half", 2 * x.chance(0, 1, 0) > x.chance(0, 1, 1) ? 1 : 0, 1);
        Due.due("more than a half", 2 * x.chance(1, 2, 0) > x.chance(1, 2, 1) ? 1 : 0, 1);
        ringIs(x, "a row that closes by a half");
        ringIs(Due.with(2, "a;b;ab"), "halves and one in another");
    }

    /** "each of which BEATS the next one, the last one the first": not the other way about. */
    private static void ringClosesOneWay() {
        ringIs(Due.with(2, "baa;bba;abb;aab"), "the four turned about", 0, 3, 2, 1);
        ringIs(Due.with(2, "aab;abb;bba"), "a row that doesn't close");
        ringIs(Due.with(2, "abb;bba;baa;aba"), "another one");
    }

    /** "WORDS of a RING are unlike by their numbers." */
    private static void ringOfAlikeWords() {
        ringIs(Due.with(2, "aab;aab;aab;aab;aab;aab"), "six alike ones");
        ringIs(Due.with(2, "ba3;ba3;ba3;aabb;aabb;b3"), "alike ones", 0, 3, 5);
        ringIs(Due.with(2, "aab;abb;aab;abb;aab;abb"), "two of three");
    }

    /** "NOT: there is none, or not so many (k below -1, too)." */
    private static void ringHasNotSoMany() {
        WordRace x = Due.with(2, "bbab;babb;abba");
        int[] not = {LEAST, -3, -2, 3, 4, 6, MOST};
        for (int k : not) Due.due("ring(" + k + ") of three", x.ring(k), -5);
        WordRace y = Due.with(2, "bbab;babb");
        int[] all = {LEAST, -2, -1, 0, 1, 2, 3, MOST};
        for (int k : all) Due.due("ring(" + k + ") of none", y.ring(k), -5);
    }

    private static void field(WordRace x, int set, int word, long above, long below) {
        String call = "field(" + set + ", " + word + ")";
        Due.fraction(call, x.field(set, word, 0), x.field(set, word, 1), above, below);
    }

    /** "NO: .. not 2 .. 4 WORDS". */
    private static void fieldHasTwoToFour() {
        WordRace x = Due.with(2, "aab;bab;aba;abb;baa");
        field(x, 0b1, 0, Due.NO, Due.NO);
        field(x, 0b10000, 4, Due.NO, Due.NO);
        field(x, 0b11, 0, 5, 8);
        field(x, 0b11, 1, 3, 8);
        field(x, 0b1111, 0, 1, 2);
        field(x, 0b1111, 3, 1, 8);
        for (int word = 0; word < 5; word++) field(x, 0b11111, word, Due.NO, Due.NO);
        WordRace y = Due.with(3, "a;b;c");
        for (int word = 0; word < 3; word++) field(y, 0b111, word, 1, 3);
    }

    /** "NO: the set (bits of none ..)". */
    private static void fieldOfBitsOfNone() {
        WordRace x = Due.with(2, "aab;bab");
        int[] sets = {LEAST, LEAST | 3, -1, -2, 0, 4, 5, 7, 8, 11, 32 + 3, 64 + 3, 1 << 30 | 3, MOST};
        for (int set : sets) {
            for (int word = 0; word < 2; word++) field(x, set, word, Due.NO, Due.NO);
            Due.fraction("mean(" + set + ")", x.mean(set, 0), x.mean(set, 1), Due.NO, Due.NO);
        }
        field(x, 3, 0, 5, 8);
        Due.tell(x, "aba;abb;b3;a3");
        int[] ofSeven = {64 + 3, 128 + 3, 64};
        for (int set : ofSeven) field(x, set, 0, Due.NO, Due.NO);
        field(x, 48, 4, 1, 2);
        field(x, 48, 5, 1, 2);
    }

    /** "NO: .. the WORD is not in it". */
    private static void fieldOfWordNotInIt() {
        WordRace x = Due.with(2, "aab;bab;aba");
        int[] words = {LEAST, -32, -1, 2, 3, 6, 31, 32, 33, 64, MOST};
        for (int word : words) field(x, 3, word, Due.NO, Due.NO);
        field(x, 5, 1, Due.NO, Due.NO);
        field(x, 6, 0, Due.NO, Due.NO);
    }

    private static void fieldOfNoPart() {
        WordRace x = Due.with(2, "aab;bab;aba");
        for (int part : NO_PARTS) {
            Due.due("field part " + part, x.field(3, 0, part), Due.NO);
            Due.due("mean part " + part, x.mean(3, part), Due.NO);
        }
    }

    /** "A FIELD: a set of WORDS (bits), none of which is IN another"; alike ones are. */
    private static void fieldOfOneInAnother() {
        for (int one = 0; one < 4; one++) {
            for (int other = 0; other < 4; other++) {
                if (one == other) continue;
                WordRace x = Due.with(2, "aab;bab;aba;abb");
                int longer = x.of(one, 0);
                int[] within = {longer, longer % 100, longer / 10, longer * 10 + 1, 20000 + longer * 10 + 2};
                for (int number : within) {
                    x.becomes(other, number);
                    for (int word = 0; word < 4; word++) field(x, 15, word, Due.NO, Due.NO);
                    Due.fraction("mean(15)", x.mean(15, 0), x.mean(15, 1), Due.NO, Due.NO);
                    Due.due("within(15)", x.within(15, 0, 3), -3);
                }
            }
        }
    }

    private static BigInteger[] sum(BigInteger[] one, BigInteger[] other) {
        return new BigInteger[] {
            one[0].multiply(other[1]).add(other[0].multiply(one[1])), one[1].multiply(other[1])};
    }

    private static int isAlike(BigInteger[] one, BigInteger[] other) {
        return one[0].multiply(other[1]).equals(other[0].multiply(one[1])) ? 1 : 0;
    }

    private static BigInteger[] fraction(long above, long below) {
        return new BigInteger[] {BigInteger.valueOf(above), BigInteger.valueOf(below)};
    }

    /** "all CHANCES together are 1, and for each WORD of it the sum .. is MEAN", in fields of two, three and four. */
    private static void chancesAndMeanAreAsTold() {
        String[] texts = {"aab;bab;aba;abb;baa;bba", "a;b5;b4;b3;b2;b", "abab;bba;aabb;b4;a3;ba", "a5;b5;abaab;babba;aabb;bab"};
        for (String text : texts) {
            for (int sides = 2; sides < 4; sides++) {
                // One object for some sets: a field is told alike behind a greater one and behind a smaller one.
                WordRace x = null;
                for (int set = 3; set < 64; set++) {
                    if (set % 6 == 3) x = Due.with(sides, text);
                    asTold(x, set);
                }
            }
        }
    }

    private static void asTold(WordRace x, int set) {
        if (x.mean(set, 0) == Due.NO) return;
        BigInteger[] mean = fraction(x.mean(set, 0), x.mean(set, 1));
        BigInteger[] together = fraction(0, 1);
        for (int of = 0; of < 6; of++) {
            if ((set >> of & 1) == 0) continue;
            long above = x.field(set, of, 0);
            long below = x.field(set, of, 1);
            Due.due("above 0, below 1", above > 0 && above < below ? 1 : 0, 1);
            Due.due("in lowest terms", BigInteger.valueOf(above).gcd(BigInteger.valueOf(below)).longValue(), 1);
            together = sum(together, fraction(above, below));
            BigInteger[] onThis = fraction(0, 1);
            for (int one = 0; one < 6; one++) {
                if ((set >> one & 1) == 0) continue;
                onThis = sum(onThis, fraction(x.field(set, one, 0) * x.number(one, of), x.field(set, one, 1)));
            }
            Due.due("the sum on word " + of + " of set " + set, isAlike(onThis, mean), 1);
        }
        Due.due("the mean in lowest terms", mean[0].gcd(mean[1]).longValue(), 1);
        Due.due("together 1, set " + set, isAlike(together, fraction(1, 1)), 1);
    }

    private static void meanIs(WordRace x, int set, long above, long below) {
        Due.fraction("mean(" + set + ")", x.mean(set, 0), x.mean(set, 1), above, below);
    }

    /** The least mean is one throw. */
    private static void meanHasEdges() {
        meanIs(Due.with(2, "a;b"), 3, 1, 1);
        meanIs(Due.with(3, "a;b;c"), 7, 1, 1);
        meanIs(Due.with(3, "a;b;c"), 6, 3, 2);
        meanIs(Due.with(2, "a5;b5"), 3, 31, 1);
        meanIs(Due.with(3, "a5;b5"), 3, 363, 2);
        meanIs(Due.with(2, "aa;ab;ba;bb"), 15, 2, 1);
    }

    /** "NO likewise." */
    private static void meanIsNo() {
        WordRace x = Due.with(2, "aab;bab;aba;abb;baa;ab");
        int[] sets = {LEAST, -1, 0, 1, 16, 31, 33, 63, 64, 64 + 3, MOST};
        for (int set : sets) meanIs(x, set, Due.NO, Due.NO);
    }

    private static void within(WordRace x, int set, int word, int n, int due) {
        Due.due("within(" + set + ", " + word + ", " + n + ")", x.within(set, word, n), due);
    }

    /** "WITHIN 0 is 0." */
    private static void withinOfNoThrows() {
        WordRace x = Due.with(2, "a;b2;b5");
        within(x, 1, 0, 0, 0);
        within(x, 2, 1, 0, 0);
        within(x, 4, 2, 0, 0);
        within(x, 3, 0, 0, 0);
        within(x, 3, 1, 0, 0);
    }

    /** "WITHIN n (0 .. 12)": below a word's length none, at it one, at 12 of all rows. */
    private static void withinOfAllThrows() {
        WordRace x = Due.with(2, "a;b5;ab;b");
        within(x, 1, 0, 1, 1);
        within(x, 1, 0, 12, 4095);
        within(x, 2, 1, 4, 0);
        within(x, 2, 1, 5, 1);
        within(x, 3, 1, 5, 1);
        within(x, 3, 1, 12, 128);
        within(x, 3, 0, 12, 4096 - 128);
        within(x, 4, 2, 1, 0);
        within(x, 4, 2, 2, 1);
        within(x, 9, 0, 12, 2048);
        x.sides(3);
        within(x, 1, 0, 12, 531441 - 4096);
        within(x, 9, 0, 12, (531441 - 1) / 2);
        within(x, 9, 3, 1, 1);
        within(x, 2, 1, 12, rowsWithFiveOfOne());
    }

    /** Of all rows of twelve throws of three sides those that have a told letter five times, one behind the other. */
    private static int rowsWithFiveOfOne() {
        int[] runs = {1, 0, 0, 0, 0};
        int ended = 0;
        for (int n = 0; n < 12; n++) {
            int all = runs[0] + runs[1] + runs[2] + runs[3] + runs[4];
            ended = ended * 3 + runs[4];
            runs = new int[] {2 * all, runs[0], runs[1], runs[2], runs[3]};
        }
        return ended;
    }

    /** "WITHIN n of a FIELD of 1 .. 4 WORDS". */
    private static void withinOfOneToFour() {
        WordRace x = Due.with(2, "aab;bab;aba;abb;baa");
        within(x, 0b1, 0, 3, 1);
        within(x, 0b11, 1, 4, 4);
        within(x, 0b111, 2, 4, 2);
        within(x, 0b1111, 0, 12, 1023 + 1013);
        within(x, 0b11110, 4, 3, 1);
        within(x, 0b11111, 4, 3, -2);
    }

    /** Words of which one ends in any row that is long enough: each row is counted, and none twice. */
    private static void withinCountsEachRowOnce() {
        String[] texts = {"aa;ab;ba;bb", "a;bb", "a;b", "aaa;b", "aa;bb;ab"};
        int[] from = {2, 2, 1, 3, 3};
        for (int i = 0; i < texts.length; i++) {
            WordRace x = Due.with(2, texts[i]);
            int words = x.count(0);
            for (int n = from[i]; n <= 12; n++) {
                int together = 0;
                for (int w = 0; w < words; w++) together += x.within((1 << words) - 1, w, n);
                Due.due("all rows of " + n + " of " + texts[i], together, 1 << n);
            }
        }
    }

    /** "NONE: the set has bits of none, the WORD is not in it". */
    private static void withinIsNone() {
        WordRace x = Due.with(2, "aab;bab;aba");
        int[] sets = {LEAST, LEAST | 1, -1, 0, 8, 9, 32 + 1, 64 + 1, 1 << 30 | 1, MOST};
        for (int set : sets) within(x, set, 0, 3, -1);
        int[] words = {LEAST, -32, -1, 1, 2, 3, 6, 31, 32, 64, MOST};
        for (int word : words) within(x, 1, word, 3, -1);
    }

    /** "BAD: how many WORDS it has, n". */
    private static void withinIsBad() {
        WordRace x = Due.with(2, "aab;bab;aba;abb;baa;bba");
        int[] sets = {31, 62, 47, 63};
        for (int set : sets) within(x, set, 1, 3, -2);
        int[] throwns = {LEAST, -1, 13, 14, 64, MOST};
        for (int n : throwns) within(x, 3, 0, n, -2);
        within(x, 15, 0, 12, 1023 + 1013);
    }

    /** "STATE: one is IN another". */
    private static void withinIsState() {
        WordRace x = Due.with(2, "aab;ab;aba;b;aab");
        int[] sets = {1 + 2, 2 + 4, 2 + 8, 1 + 16, 1 + 4 + 8, 1 + 2 + 4 + 8};
        int[] words = {0, 1, 1, 0, 0, 0};
        for (int i = 0; i < sets.length; i++) {
            within(x, sets[i], words[i], 0, -3);
            within(x, sets[i], words[i], 12, -3);
        }
        within(x, 1 + 4, 0, 3, 1);
    }

    /** "the first that a call's words name": NONE, BAD, STATE. */
    private static void withinIsWhatIsNamedFirst() {
        WordRace x = Due.with(2, "aab;ab;aba;b;aab;bb");
        within(x, 31, 5, 3, -1);
        within(x, 31, 5, 13, -1);
        within(x, 64 + 31, 0, 13, -1);
        within(x, 3, 2, 3, -1);
        within(x, 3, 2, 13, -1);
        within(x, 31, 0, 3, -2);
        within(x, 31, 0, 13, -2);
        within(x, 3, 0, 13, -2);
        within(x, 3, 0, -1, -2);
        within(x, 3, 0, 12, -3);
    }
}
