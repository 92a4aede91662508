/** What the tests of the project share: answers that are due, and texts told to an object. */
final class Due {
    static final long NO = Long.MIN_VALUE;

    private static int wrong = 0;
    private static int asked = 0;

    private Due() {
    }

    static void due(String call, long got, long want) {
        asked++;
        if (got == want) return;
        wrong++;
        if (wrong <= 50) System.out.println(call + " answered " + got + ", due is " + want);
    }

    static void fraction(String call, long above, long below, long wantAbove, long wantBelow) {
        due(call + " above", above, wantAbove);
        due(call + " below", below, wantBelow);
    }

    static void feed(WordRace x, String text) {
        for (int i = 0; i < text.length(); i++) x.feed(text.charAt(i));
    }

    static int tell(WordRace x, String text) {
        feed(x, text);
        return x.words();
    }

    /** An object with the words of a text. */
    static WordRace with(int sides, String text) {
        WordRace x = new WordRace();
        x.sides(sides);
        if (!text.isEmpty()) tell(x, text);
        return x;
    }

    static void cast(WordRace x, String letters) {
        for (int i = 0; i < letters.length(); i++) x.cast(letters.charAt(i) - 'a' + 1);
    }

    /** The letters drawn by a seed: the ints of the document as longs without a sign. */
    static String drawn(int sides, int seed, int n) {
        StringBuilder text = new StringBuilder();
        long z = seed & 0xFFFFFFFFL;
        for (int i = 0; i < n; i++) {
            z = z * 1103515245L + 12345L & 0xFFFFFFFFL;
            text.append((char) ('a' + (z >> 16) % sides));
        }
        return text.toString();
    }

    static String paper(WordRace x) {
        StringBuilder text = new StringBuilder();
        for (int i = 0; x.paper(i) >= 0; i++) text.append((char) x.paper(i));
        return text.toString();
    }

    static void text(String call, String got, String want) {
        asked++;
        if (got.equals(want)) return;
        wrong++;
        System.out.println(call + " answered " + got + ", due is " + want);
    }

    static void end() {
        System.out.println(wrong == 0 ? asked + " answers are as due" : wrong + " answers are not as due");
        if (wrong != 0) System.exit(1);
    }
}
