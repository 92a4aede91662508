/** Each sentence of the document that names an edge of WORDS and THE TAPE: 'Terms' 1, promises 1 to 9. */
public final class EdgesOfWordsTest {
    private static final int LEAST = Integer.MIN_VALUE;
    private static final int MOST = Integer.MAX_VALUE;

    public static void main(String[] args) {
        newObjectHoldsNothing();
        newObjectAnswersNoWord();
        objectIsUsedForSoManyCalls();
        sidesAreTwoOrThree();
        sidesAreWhatTheyWere();
        sidesStayThreeByWord();
        sidesStayThreeByStrip();
        sidesBecomeTwoWhateverElseHasC();
        feedTakesBytes();
        tapeHasSixtyBytes();
        tapeOfSixtyBytesIsRead();
        clausesAreOneOrMore();
        clauseHasLetters();
        lettersAreOfSides();
        figuresAreTwoToFive();
        figureStandsBehindLetter();
        lettersAreFiveAtMost();
        faultIsTheFirstByte();
        faultIsTheLength();
        wordsAreSix();
        wordsComeInTheirOrder();
        tapeIsEmptyBehindWords();
        becomesWordOfLetters();
        becomesWordOfSides();
        becomesNone();
        ofIsNone();
        waitHasEdges();
        bestAnswerHasEdges();
        overlapsGoUpToBothLengths();
        overlapsAreNone();
        numberIsSidesToTheKth();
        numberIsNone();
        isInWithoutGap();
        isInIsNone();
        Due.end();
    }

    /** "2 at first"; "none at first"; "nothing at first"; "No WORDS, nothing thrown." */
    private static void newObjectHoldsNothing() {
        WordRace x = new WordRace();
        int[] counts = {0, 0, 0, 2, 0, 0, 0};
        for (int what = 0; what < 7; what++) Due.due("new: count(" + what + ")", x.count(what), counts[what]);
        Due.due("new: strip(0)", x.strip(0), -1);
        Due.due("new: paper(0)", x.paper(0), -1);
        for (int list = 0; list < 4; list++) {
            Due.due("new: judge(" + list + ")", x.judge(list), -11);
            Due.due("new: get(" + list + ", 0)", x.get(list, 0), Due.NO);
            Due.due("new: put(" + list + ", 0, 0)", x.put(list, 0, 0), -11);
        }
        Due.due("new: who()", x.who(), -5);
        Due.due("new: behind(0)", x.behind(0), 0);
        Due.due("new: behind(1)", x.behind(1), -5);
        Due.due("new: ring(-1)", x.ring(-1), -5);
        Due.due("new: undo()", x.undo(), -3);
        Due.due("new: wipe()", x.wipe(), 0);
        Due.due("new: words()", x.words(), -100);
        Due.due("new: write(-1)", x.write(-1), 0);
        Due.due("new: image()", x.image(), 0);
        Due.due("new: undo() to nothing", x.undo(), 0);
    }

    private static void newObjectAnswersNoWord() {
        WordRace x = new WordRace();
        Due.due("no word: becomes", x.becomes(0, 1), -1);
        Due.due("no word: of", x.of(0, 0), -1);
        Due.due("no word: overlaps", x.overlaps(0, 0), -1);
        Due.due("no word: number", x.number(0, 0), -1);
        Due.due("no word: isIn", x.isIn(0, 0), -1);
        Due.due("no word: chance", x.chance(0, 1, 0), Due.NO);
        Due.due("no word: answered", x.answered(0, 0), Due.NO);
        Due.due("no word: trail", x.trail(0, 0), -1);
        Due.due("no word: field", x.field(3, 0, 0), Due.NO);
        Due.due("no word: mean", x.mean(3, 0), Due.NO);
        Due.due("no word: within", x.within(1, 0, 0), -1);
        Due.due("no word: ends", x.ends(0), Due.NO);
        Due.due("no word: seen", x.seen(0, 0), -1);
        Due.due("no word: were", x.were(0, 0), -1);
        Due.due("no word: player", x.player(0, 0), -1);
        Due.due("no word: playerOf", x.playerOf(0, 0), -1);
        Due.due("no word: pick", x.pick(0, 1, 0), -1);
        Due.due("no word: match", x.match(0, 1, 0), Due.NO);
        Due.due("no word: duel", x.duel(0, 1, 0, 0), -1);
        Due.due("no word: odds", x.odds(0, 1, 0, 1, 0), Due.NO);
        Due.due("no word: behind", x.behind(10), -1);
        Due.due("no word: write", x.write(0), -1);
    }

    /** "An object is used for at most 512 calls": the last of them is answered as the first. */
    private static void objectIsUsedForSoManyCalls() {
        WordRace x = Due.with(3, "ac3a");
        x.casts(40, 7);
        int calls = 7;
        for (; calls < 508; calls++) Due.due("trail at call " + calls, x.trail(0, 0), 20);
        Due.due("call 509", x.becomes(0, 12), 13331);
        Due.due("call 510", x.wipe(), 40);
        Due.due("call 511", x.cast(3), 1);
        Due.due("call 512", x.of(0, 3), 31);
    }

    /** "SIDES (2 or 3 ..)"; "BAD". */
    private static void sidesAreTwoOrThree() {
        int[] bad = {LEAST, -3, -2, -1, 0, 1, 4, 5, 258, MOST};
        WordRace x = new WordRace();
        for (int n : bad) Due.due("sides(" + n + ") of 2", x.sides(n), -2);
        Due.due("they stay 2", x.count(3), 2);
        Due.due("sides(3)", x.sides(3), 2);
        for (int n : bad) Due.due("sides(" + n + ") of 3", x.sides(n), -2);
        Due.due("they stay 3", x.count(3), 3);
    }

    /** "SIDES become n (2, 3): what they were." */
    private static void sidesAreWhatTheyWere() {
        WordRace x = new WordRace();
        Due.due("2 to 2", x.sides(2), 2);
        Due.due("2 to 3", x.sides(3), 2);
        Due.due("3 to 3", x.sides(3), 3);
        Due.due("3 to 2", x.sides(2), 3);
        Due.due("they are 2", x.sides(3), 2);
    }

    /** "STATE: they would be 2, and a WORD .. has c": as any letter, of any word. */
    private static void sidesStayThreeByWord() {
        int[] numbers = {3, 31, 13, 31122, 12113, 11311, 33333};
        for (int word = 0; word < 6; word++) {
            WordRace x = Due.with(3, "a;ab;b;ba;aab;b5");
            for (int number : numbers) {
                int before = x.becomes(word, number);
                Due.due("sides(2), word " + word + " is " + number, x.sides(2), -3);
                Due.due("sides(3), too", x.sides(3), 3);
                x.becomes(word, before);
                Due.due("sides(2) without c", x.sides(2), 3);
                x.sides(3);
            }
        }
    }

    /** "STATE: they would be 2, and .. THE STRIP has c": at any place of it. */
    private static void sidesStayThreeByStrip() {
        for (int place = 0; place < 40; place++) {
            WordRace x = Due.with(3, "ab");
            for (int i = 0; i < 40; i++) x.cast(i == place ? 3 : 1 + i % 2);
            Due.due("sides(2), c at place " + place, x.sides(2), -3);
            Due.due("they stay 3", x.count(3), 3);
            x.wipe();
            Due.due("sides(2), c wiped", x.sides(2), 3);
        }
    }

    /** Just "a WORD or THE STRIP": not THE TAPE, THE PAPER, the PLAN, the LISTS, THE IMAGE. */
    private static void sidesBecomeTwoWhateverElseHasC() {
        WordRace x = Due.with(3, "c");
        Due.cast(x, "c");
        x.write(0);
        x.plan(0, 3);
        x.list(0, 1);
        x.put(0, 0, 3);
        x.image();
        Due.feed(x, "c");
        x.wipe();
        Due.due("c is left in the word", x.sides(2), -3);
        x.becomes(0, 1);
        Due.due("c is left elsewhere", x.sides(2), 3);
        Due.due("the tape's c is a fault now", x.words(), -100);
        Due.due("the plan's c does nothing now", x.behind(0), 0);
        Due.due("the paper's c stays", x.paper(0), 'c');
        Due.due("the image", x.undo(), 1);
        Due.due("has SIDES 3", x.count(3), 3);
    }

    /** "A byte (1 .. 127)"; "BAD". */
    private static void feedTakesBytes() {
        WordRace x = new WordRace();
        int[] bad = {LEAST, LEAST + 97, -97, -1, 0, 128, 129, 255, 256 + 97, MOST};
        for (int letter : bad) Due.due("feed(" + letter + ")", x.feed(letter), -2);
        Due.due("none came", x.count(4), 0);
        Due.due("feed(1)", x.feed(1), 1);
        Due.due("feed(127)", x.feed(127), 2);
        Due.due("they are on the tape", x.words(), -100);
        x.feed('a');
        x.feed(127);
        Due.due("127 is no letter", x.words(), -101);
    }

    /** "THE TAPE (60 bytes at most)"; "FULL". */
    private static void tapeHasSixtyBytes() {
        WordRace x = new WordRace();
        for (int i = 1; i <= 60; i++) Due.due("byte " + i, x.feed(i % 2 == 1 ? 'a' : ';'), i);
        Due.due("the 61st", x.feed('a'), -4);
        Due.due("the 61st again", x.feed(1), -4);
        Due.due("sixty", x.count(4), 60);
        Due.due("none of them came", x.words(), -160);
        Due.due("there is room anew", x.feed('a'), 1);
    }

    private static void tapeOfSixtyBytesIsRead() {
        // Thirty words are too many, and 59 bytes of them are no fault.
        WordRace x = new WordRace();
        for (int i = 1; i < 60; i++) x.feed(i % 2 == 1 ? 'a' : ';');
        Due.due("thirty words", x.words(), -4);
        // The 60th byte is a letter: twelve clauses of four letters; then a letter too many in its place.
        for (int i = 1; i < 60; i++) x.feed(i % 5 == 0 ? ';' : 'a');
        x.feed('a');
        Due.due("sixty bytes", x.words(), -4);
        for (int i = 1; i <= 54; i++) x.feed(i % 5 == 0 ? ';' : 'a');
        Due.feed(x, "aaaaaa");
        Due.due("the 56th byte is a letter too many", x.words(), -155);
        for (int i = 0; i < 50; i++) x.feed(i % 2 == 0 ? 'a' : ';');
        Due.feed(x, "abab2;bba2");
        Due.due("the last byte is a figure", x.words(), -4);
        for (int i = 0; i < 50; i++) x.feed(i % 2 == 0 ? 'a' : ';');
        Due.feed(x, "abab2;bba6");
        Due.due("the last byte is a fault", x.words(), -159);
    }

    /** "CLAUSES, one or more, with ; between". */
    private static void clausesAreOneOrMore() {
        told(2, "a", 1);
        told(2, "a;b", 1, 2);
        told(2, "a;b;aa;ab;ba;bb", 1, 2, 11, 12, 21, 22);
        fault(2, "", 0);
        fault(2, ";", 0);
        fault(2, ";a", 0);
        fault(2, "a;;b", 2);
        fault(2, "a;b;;", 4);
        fault(2, "a,b", 1);
        fault(2, "a:b", 1);
        fault(2, "a b", 1);
    }

    /** "one or more LETTERS". */
    private static void clauseHasLetters() {
        told(2, "b", 2);
        told(2, "ababa", 12121);
        fault(2, "2", 0);
        fault(2, "5a", 0);
        fault(2, "a;3", 2);
        fault(2, "a;3b", 2);
    }

    /** "LETTERS a, b and, with SIDES 3, c"; "c just with SIDES 3". */
    private static void lettersAreOfSides() {
        told(3, "c", 3);
        told(3, "abc;c2b", 123, 332);
        fault(2, "c", 0);
        fault(2, "abc", 2);
        fault(2, "a;b;c", 4);
        fault(3, "d", 0);
        fault(3, "abcd", 3);
        fault(3, "`", 0);
        fault(3, "A", 0);
        fault(3, "abC", 2);
        fault(2, "B", 0);
    }

    /** "a figure 2 .. 5 behind it (so many times)"; "The FAULT by a figure is the place of the figure." */
    private static void figuresAreTwoToFive() {
        told(2, "a2", 11);
        told(2, "a3", 111);
        told(2, "b4", 2222);
        told(2, "b5", 22222);
        told(2, "a2b2;ab3a;a3b2", 1122, 12221, 11122);
        int[] others = {'0', '1', '6', '7', '8', '9', '/', ':'};
        for (int other : others) fault(2, "a" + (char) other, 1);
    }

    /** "each perhaps with a figure": one figure, and just behind a letter. */
    private static void figureStandsBehindLetter() {
        told(2, "a2b", 112);
        told(2, "ab2", 122);
        told(2, "a2a2", 1111);
        told(2, "a2a3", 11111);
        fault(2, "a22", 2);
        fault(2, "a23", 2);
        fault(2, "a2b22", 4);
        fault(2, "a;2", 2);
        fault(2, "a2;2", 3);
    }

    /** "5 LETTERS at most in all"; "a letter or a figure by which there were more than five, too". */
    private static void lettersAreFiveAtMost() {
        told(2, "aaaab", 11112);
        told(2, "ab4", 12222);
        told(2, "a4b", 11112);
        told(2, "a2b3", 11222);
        told(2, "abab2", 12122);
        told(2, "a5;b5", 11111, 22222);
        fault(2, "aaaabb", 5);
        fault(2, "a5b", 2);
        fault(2, "a4b2", 3);
        fault(2, "ab5", 2);
        fault(2, "aaa4", 3);
        fault(2, "aaaa3", 4);
        fault(2, "aaaaa2", 5);
        fault(2, "a2b2a2", 5);
        fault(2, "b;aaaaa;bbbbbb", 13);
    }

    /** "the place (from 0) of the first byte with which no such text goes on": the first of several. */
    private static void faultIsTheFirstByte() {
        fault(2, "x", 0);
        fault(2, "ax", 1);
        fault(2, "axx;;", 1);
        fault(2, "a;x;", 2);
        fault(2, "a5;b5;a5;b5;a5;b5;x", 18);
        fault(2, "a;;x", 2);
        fault(2, "aaaaaac", 5);
        fault(2, "\u0001", 0);
        fault(2, "ab\u007f", 2);
    }

    /** "the length, if it ends too early". */
    private static void faultIsTheLength() {
        fault(2, "", 0);
        fault(2, "a;", 2);
        fault(2, "a5;", 3);
        fault(2, "a;b;", 4);
        fault(2, "a2b2a;b;aaa;", 12);
    }

    /** "WORDS 0 .. 5"; "FULL: there would be more than six (none comes)." */
    private static void wordsAreSix() {
        String[] texts = {"a;b;ab;ba;aa;bb", "a;b;ab;ba;aa", "a;b;ab;ba", "a;b;ab", "a;b", "a"};
        for (int i = 0; i < texts.length; i++) {
            WordRace x = Due.with(2, texts[i]);
            int there = 6 - i;
            Due.due("words there", x.count(0), there);
            Due.feed(x, "a");
            for (int more = 0; more < i; more++) Due.feed(x, ";b");
            Due.due(i + 1 + " more than " + there, x.words(), -4);
            Due.due("none came", x.count(0), there);
            Due.due("none is there", x.of(there, 0), -1);
            if (i > 0) Due.feed(x, "b2");
            for (int more = 1; more < i; more++) Due.feed(x, ";ab");
            Due.due("up to six", x.words(), i > 0 ? 6 : -100);
            Due.due("a seventh", Due.tell(x, "a"), -4);
        }
    }

    /** "WORDS 0 .. 5, as they come." */
    private static void wordsComeInTheirOrder() {
        WordRace x = Due.with(2, "b;a");
        Due.due("two more", Due.tell(x, "ba;b"), 4);
        Due.due("two more", Due.tell(x, "a;ab"), 6);
        int[] numbers = {2, 1, 21, 2, 1, 12};
        for (int w = 0; w < 6; w++) Due.due("word " + w, x.of(w, 0), numbers[w]);
        Due.due("word 6", x.of(6, 0), -1);
        Due.due("word -1", x.of(-1, 0), -1);
    }

    /** "THE TAPE is empty behind each call that reads it"; "THE TAPE is empty then also by FULL." */
    private static void tapeIsEmptyBehindWords() {
        WordRace x = new WordRace();
        Due.due("told", Due.tell(x, "ab"), 1);
        Due.due("empty", x.count(4), 0);
        Due.due("nothing to read", x.words(), -100);
        Due.due("a fault", Due.tell(x, "abx"), -102);
        Due.due("empty behind a fault", x.count(4), 0);
        Due.due("anew behind a fault", Due.tell(x, "b"), 2);
        Due.due("ended too early", Due.tell(x, "ab;"), -103);
        Due.due("empty behind that", x.count(4), 0);
        Due.due("anew behind that", Due.tell(x, "a"), 3);
        Due.due("too many", Due.tell(x, "a;a;a;a"), -4);
        Due.due("empty behind too many", x.count(4), 0);
        Due.due("anew behind too many", Due.tell(x, "b5"), 4);
        Due.due("a fault behind a letter", Due.tell(x, "a;bx"), -103);
        Due.due("the letter is not there for a figure", Due.tell(x, "2"), -100);
        Due.due("a fault behind four letters", Due.tell(x, "a4x"), -102);
        Due.due("they are not there for five more", Due.tell(x, "a5"), 5);
        int[] numbers = {12, 2, 1, 22222, 11111};
        for (int w = 0; w < 5; w++) Due.due("word " + w, x.of(w, 0), numbers[w]);
    }

    /** "BAD: it is no word of SIDES": 1 to 5 LETTERS, each a digit of a letter. */
    private static void becomesWordOfLetters() {
        WordRace x = Due.with(3, "ab");
        int[] good = {1, 2, 3, 11, 33, 111, 1111, 33333, 11111};
        int before = 12;
        for (int number : good) {
            Due.due("becomes(0, " + number + ")", x.becomes(0, number), before);
            Due.due("becomes(0, " + number + ") again", x.becomes(0, number), number);
            before = number;
        }
        int[] bad = {LEAST, -33333, -12, -1, 0, 4, 9, 10, 14, 20, 30, 41, 101, 110, 140, 1011, 1101, 10111, 11110, 33334,
            43333, 100000, 111111, 333333, 1111111, 1111111111, MOST};
        for (int number : bad) Due.due("becomes(0, " + number + ")", x.becomes(0, number), -2);
        Due.due("the word stays", x.of(0, 0), 11111);
    }

    private static void becomesWordOfSides() {
        WordRace x = Due.with(2, "ab");
        int[] bad = {3, 13, 31, 113, 131, 311, 11113, 31111, 33333};
        for (int number : bad) Due.due("becomes(0, " + number + ") of 2", x.becomes(0, number), -2);
        Due.due("the word stays", x.of(0, 0), 12);
        x.sides(3);
        int before = 12;
        for (int number : bad) {
            Due.due("becomes(0, " + number + ") of 3", x.becomes(0, number), before);
            before = number;
        }
    }

    private static void becomesNone() {
        WordRace x = Due.with(2, "ab;ba");
        int[] none = {LEAST, -1, 2, 3, 6, MOST};
        for (int word : none) {
            Due.due("becomes(" + word + ", 1)", x.becomes(word, 1), -1);
            Due.due("becomes(" + word + ", 0), NONE ahead of BAD", x.becomes(word, 0), -1);
        }
        Due.due("no word came", x.count(0), 2);
    }

    private static void ofIsNone() {
        WordRace x = Due.with(2, "ab;ba");
        int[] none = {LEAST, -1, 2, 5, 6, MOST};
        for (int word : none) for (int what = 0; what < 4; what++) Due.due("of(" + word + ")", x.of(word, what), -1);
        int[] whats = {LEAST, -1, 4, 5, MOST};
        for (int what : whats) Due.due("of(0, " + what + ")", x.of(0, what), -1);
        Due.due("of(1, 3)", x.of(1, 3), 12);
    }

    /** WAIT of the shortest and the longest words. */
    private static void waitHasEdges() {
        int[][] two = {{1, 2}, {2, 2}, {11111, 62}, {22222, 62}, {11112, 32}};
        int[][] three = {{1, 3}, {3, 3}, {11111, 363}, {33333, 363}, {12333, 243}};
        WordRace x = Due.with(2, "a");
        for (int[] row : two) {
            x.becomes(0, row[0]);
            Due.due("wait of " + row[0] + ", 2 sides", x.of(0, 2), row[1]);
        }
        x.sides(3);
        for (int[] row : three) {
            x.becomes(0, row[0]);
            Due.due("wait of " + row[0] + ", 3 sides", x.of(0, 2), row[1]);
        }
    }

    /** "of as many LETTERS (of SIDES), other than A"; "of like ones the least number". */
    private static void bestAnswerHasEdges() {
        int[][] two = {{1, 2}, {2, 1}, {11, 21}, {22, 12}, {12, 11}, {21, 12}, {11111, 21111}, {22222, 12222}};
        int[][] three = {{1, 2}, {2, 1}, {3, 1}, {11, 21}, {33, 13}, {22222, 12222}, {33333, 13333}, {11111, 21111}};
        WordRace x = Due.with(2, "a");
        for (int[] row : two) {
            x.becomes(0, row[0]);
            Due.due("best answer to " + row[0] + ", 2 sides", x.of(0, 3), row[1]);
        }
        x.sides(3);
        for (int[] row : three) {
            x.becomes(0, row[0]);
            Due.due("best answer to " + row[0] + ", 3 sides", x.of(0, 3), row[1]);
        }
    }

    /** "(k up to both their lengths)": all LETTERS of the shorter one, too. */
    private static void overlapsGoUpToBothLengths() {
        WordRace x = Due.with(2, "a5;a;a4;baaaa;aaaab;ab");
        int[][] due = {
            {31, 1, 15, 0, 15, 1}, {1, 1, 1, 0, 1, 1}, {15, 1, 15, 0, 15, 1},
            {15, 1, 15, 16, 15, 1}, {0, 0, 0, 1, 16, 2}, {0, 0, 0, 1, 0, 2}};
        for (int one = 0; one < 6; one++) {
            for (int other = 0; other < 6; other++) {
                Due.due("overlaps(" + one + ", " + other + ")", x.overlaps(one, other), due[one][other]);
            }
        }
    }

    private static void overlapsAreNone() {
        WordRace x = Due.with(2, "ab;ba");
        int[] none = {LEAST, -1, 2, 6, MOST};
        for (int word : none) {
            Due.due("overlaps(0, " + word + ")", x.overlaps(0, word), -1);
            Due.due("overlaps(" + word + ", 1)", x.overlaps(word, 1), -1);
            Due.due("overlaps(" + word + ", twice)", x.overlaps(word, word), -1);
        }
    }

    /** "of all these bits SIDES to the k-th, together": the least bit, the greatest, none, all. */
    private static void numberIsSidesToTheKth() {
        WordRace x = Due.with(2, "a5;baaaa;aaaab;ab");
        int[][] two = {{62, 0, 30, 2}, {30, 32, 30, 2}, {0, 2, 32, 4}, {0, 2, 0, 4}};
        int[][] three = {{363, 0, 120, 3}, {120, 243, 120, 3}, {0, 3, 243, 9}, {0, 3, 0, 9}};
        for (int one = 0; one < 4; one++) {
            for (int other = 0; other < 4; other++) {
                x.sides(2);
                Due.due("number(" + one + ", " + other + ") of 2", x.number(one, other), two[one][other]);
                x.sides(3);
                Due.due("number(" + one + ", " + other + ") of 3", x.number(one, other), three[one][other]);
            }
        }
    }

    private static void numberIsNone() {
        WordRace x = Due.with(2, "ab;ba");
        int[] none = {LEAST, -1, 2, 6, MOST};
        for (int word : none) {
            Due.due("number(0, " + word + ")", x.number(0, word), -1);
            Due.due("number(" + word + ", 1)", x.number(word, 1), -1);
            Due.due("number(" + word + ", twice)", x.number(word, word), -1);
        }
    }

    /** "all its LETTERS stand in B, one behind the other without a gap (alike ones, too)"; "one in itself: 1". */
    private static void isInWithoutGap() {
        WordRace x = Due.with(3, "abcab");
        isIn(x, 12, 1);
        isIn(x, 123, 1);
        isIn(x, 23, 1);
        isIn(x, 231, 1);
        isIn(x, 312, 1);
        isIn(x, 2312, 1);
        isIn(x, 12312, 1);
        isIn(x, 3, 1);
        isIn(x, 13, 0);
        isIn(x, 21, 0);
        isIn(x, 1212, 0);
        isIn(x, 122, 0);
        isIn(x, 121, 0);
        isIn(x, 11, 0);
        isIn(x, 31212, 0);
    }

    private static void isIn(WordRace x, int number, int due) {
        if (x.count(0) < 2) Due.tell(x, "a");
        x.becomes(1, number);
        Due.due(number + " in 12312", x.isIn(1, 0), due);
        Due.due("12312 in " + number, x.isIn(0, 1), number == 12312 ? 1 : 0);
        Due.due(number + " in itself", x.isIn(1, 1), 1);
    }

    private static void isInIsNone() {
        WordRace x = Due.with(2, "ab;ba");
        int[] none = {LEAST, -1, 2, 6, MOST};
        for (int word : none) {
            Due.due("isIn(0, " + word + ")", x.isIn(0, word), -1);
            Due.due("isIn(" + word + ", 1)", x.isIn(word, 1), -1);
            Due.due("isIn(" + word + ", twice)", x.isIn(word, word), -1);
        }
    }

    private static void told(int sides, String text, int... numbers) {
        WordRace x = Due.with(sides, "");
        Due.due("words() of '" + text + "'", Due.tell(x, text), numbers.length);
        for (int w = 0; w < numbers.length; w++) Due.due("word " + w + " of '" + text + "'", x.of(w, 0), numbers[w]);
    }

    private static void fault(int sides, String text, int place) {
        WordRace x = Due.with(sides, "");
        Due.due("words() of '" + text + "'", Due.tell(x, text), -100 - place);
        Due.due("no words of '" + text + "'", x.count(0), 0);
        Due.due("tape behind '" + text + "'", x.count(4), 0);
    }
}
