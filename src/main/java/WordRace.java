import java.util.Arrays;

/** Words that race to come first in a row of letters thrown alike; the promises stand in DOC.md. */
public final class WordRace {
    public static final int NONE = -1, BAD = -2, STATE = -3, FULL = -4, NOT = -5;
    public static final long NO = Long.MIN_VALUE;

    private static final int NOTHING = -11, BEYOND = -13, BELOW = -14;
    private static final int FAULTY = -100;
    private static final int MOST_LETTERS = 5, MOST_WORDS = 6, MOST_PLAYERS = 4, MOST_ROWS = 8;
    private static final int STRIP_SIZE = 40, TAPE_SIZE = 60, DUEL_SIZE = 60, LIST_SIZE = 12;
    private static final int LISTS = 4, KINDS = 6, FIELD_SIZE = 4, MOST_THROWS = 12, MOST_SEEDS = 30;
    /** All words of five letters of three sides: no row of words of one length is longer. */
    private static final int ALL_WORDS = 243;

    private final Board now = new Board();
    private final Board kept = new Board();
    private boolean isKept;
    private final Tape tape = new Tape();
    private final int[] written = new int[STRIP_SIZE];
    private int writtenSize;
    private final int[][] lists = new int[LISTS][LIST_SIZE];
    private final int[] listSizes = new int[LISTS];
    // Rows to work in, made once: no call makes an object.
    private final Strip thought = new Strip();
    private final Field contest = new Field();
    private final Ring circle = new Ring();
    private final Duel bout = new Duel();
    private final int[] steps = new int[ALL_WORDS];

    public WordRace() {
        Arrays.fill(listSizes, NOTHING);
    }

    // ---- words

    public int sides(int n) {
        if (n != 2 && n != 3) return BAD;
        if (n == 2 && now.hasThirdLetter()) return STATE;
        int before = now.sides;
        now.sides = n;
        return before;
    }

    public int feed(int letter) {
        if (letter < 1 || letter > 127) return BAD;
        return tape.append(letter) ? tape.size : FULL;
    }

    public int words() {
        int fault = tape.read(now.sides);
        tape.size = 0;
        if (fault != Tape.FAULTLESS) return FAULTY - fault;
        if (now.wordCount + tape.toldCount > MOST_WORDS) return FULL;
        for (int i = 0; i < tape.toldCount && i < MOST_WORDS; i++) now.addWord(tape.told[i]);
        return now.wordCount;
    }

    public int becomes(int word, int number) {
        if (!now.hasWord(word)) return NONE;
        if (!Word.isWord(number, now.sides)) return BAD;
        int before = now.numbers[word];
        now.numbers[word] = number;
        return before;
    }

    public int of(int word, int what) {
        if (!now.hasWord(word)) return NONE;
        int number = now.wordAt(word);
        switch (what) {
            case 0: return number;
            case 1: return Word.length(number);
            case 2: return Word.numberOn(number, number, now.sides);
            case 3: return Race.bestAnswer(number, now.sides);
            default: return NONE;
        }
    }

    public int overlaps(int one, int other) {
        if (!now.hasWord(one) || !now.hasWord(other)) return NONE;
        return Word.overlapBits(now.wordAt(one), now.wordAt(other));
    }

    public int number(int one, int other) {
        if (!now.hasWord(one) || !now.hasWord(other)) return NONE;
        return Word.numberOn(now.wordAt(one), now.wordAt(other), now.sides);
    }

    public int isIn(int one, int other) {
        if (!now.hasWord(one) || !now.hasWord(other)) return NONE;
        return Word.standsIn(now.wordAt(one), now.wordAt(other)) ? 1 : 0;
    }

    // ---- chances

    public long chance(int one, int other, int part) {
        if (!now.hasWord(one) || !now.hasWord(other) || !Fraction.isPart(part)) return NO;
        return Race.chancePart(now.wordAt(one), now.wordAt(other), now.sides, part);
    }

    public long answered(int word, int part) {
        if (!now.hasWord(word) || !Fraction.isPart(part)) return NO;
        int number = now.wordAt(word);
        return Race.chancePart(Race.bestAnswer(number, now.sides), number, now.sides, part);
    }

    public int trail(int word, int what) {
        if (!now.hasWord(word) || what < 0 || what > 1) return NONE;
        return trailLength(now.wordAt(word), what == 1);
    }

    public int ring(int k) {
        int size = circle.find(now);
        if (size == 0 || k < -1 || k >= size) return NOT;
        return k == -1 ? size : circle.wordAt(k);
    }

    public long field(int set, int word, int part) {
        if (!isRacingField(set) || !now.isInSet(set, word) || !Fraction.isPart(part)) return NO;
        return contest.chancePart(placeInSet(set, word), part);
    }

    public long mean(int set, int part) {
        if (!isRacingField(set) || !Fraction.isPart(part)) return NO;
        return contest.meanPart(part);
    }

    public int within(int set, int word, int n) {
        if (!now.isSet(set) || !now.isInSet(set, word)) return NONE;
        if (Integer.bitCount(set) > FIELD_SIZE || n < 0 || n > MOST_THROWS) return BAD;
        contest.fill(now, set);
        if (contest.hasOneInAnother()) return STATE;
        return contest.rowsWithin(placeInSet(set, word), n);
    }

    // ---- the strip

    public int cast(int letter) {
        if (letter < 1 || letter > now.sides) return BAD;
        return now.strip.append(letter) ? now.strip.size : FULL;
    }

    public int casts(int n, int seed) {
        if (n < 1 || n > STRIP_SIZE) return BAD;
        int z = seed;
        for (int i = 0; i < n; i++) {
            z = Duel.nextSeed(z);
            now.strip.append(Duel.drawn(z, now.sides));
        }
        return now.strip.size;
    }

    public int wipe() {
        int before = now.strip.size;
        now.strip.size = 0;
        return before;
    }

    public int strip(int place) {
        return now.strip.hasPlace(place) ? now.strip.letters[place] : NONE;
    }

    public long ends(int word) {
        return now.hasWord(word) ? now.strip.endBits(now.wordAt(word)) : NO;
    }

    public int seen(int word, int what) {
        if (!now.hasWord(word)) return NONE;
        int number = now.wordAt(word);
        switch (what) {
            case 0: return now.strip.firstEnd(number);
            case 1: return Long.bitCount(now.strip.endBits(number));
            case 2: return now.strip.matched(number);
            default: return NONE;
        }
    }

    public int who() {
        return now.firstOn(now.strip);
    }

    public int were(int place, int word) {
        if (!now.strip.hasPlace(place) || !now.hasWord(word)) return NONE;
        thought.copyFrom(now.strip);
        int bits = 0;
        for (int letter = 1; letter <= now.sides; letter++) {
            thought.letters[place] = letter;
            if (now.firstOn(thought) == word) bits |= 1 << (letter - 1);
        }
        return bits;
    }

    // ---- players, duels

    public int player(int kind, int word) {
        if (kind < 0 || kind >= KINDS || !now.hasWord(word)) return NONE;
        return now.addPlayer(kind, word) ? now.playerCount - 1 : FULL;
    }

    public int playerOf(int player, int what) {
        if (!now.hasPlayer(player)) return NONE;
        switch (what) {
            case 0: return now.kinds[player];
            case 1: return now.owned[player];
            case 2: return now.wins(player);
            default: return NONE;
        }
    }

    public int pick(int one, int other, int what) {
        if (!now.areTwoPlayers(one, other) || what < 0 || what > 1) return NONE;
        return what == 0 ? now.firstPick(one) : now.pickAgainst(other, now.firstPick(one));
    }

    public long match(int one, int other, int part) {
        if (!now.areTwoPlayers(one, other) || !Fraction.isPart(part)) return NO;
        int first = now.firstPick(one);
        return Race.chancePart(first, now.pickAgainst(other, first), now.sides, part);
    }

    public int duel(int one, int other, int seed, int what) {
        if (!now.areTwoWords(one, other) || what < 0 || what > 1) return NONE;
        int first = now.wordAt(one);
        int second = now.wordAt(other);
        if (Word.clash(first, second)) return STATE;
        bout.run(first, second, seed, now.sides);
        return what == 0 ? bout.winner : bout.throwCount;
    }

    public long odds(int one, int other, int seed, int m, int part) {
        if (!now.areTwoWords(one, other) || m < 1 || m > MOST_SEEDS || !Fraction.isPart(part)) return NO;
        int first = now.wordAt(one);
        int second = now.wordAt(other);
        if (Word.clash(first, second)) return NO;
        int won = 0;
        for (int i = 0; i < m; i++) {
            bout.run(first, second, seed + i, now.sides);
            if (bout.winner == 0) won++;
        }
        return Fraction.partOf(won, m, part);
    }

    // ---- plans, written

    public int plan(int what, int v) {
        if (what < -1 || what > 2) return NONE;
        if (what == -1) {
            now.rowCount = 0;
            return 0;
        }
        if (v < 1 || v > mostOfRow(what)) return BAD;
        return now.addRow(what, v) ? now.rowCount : FULL;
    }

    public int behind(int what) {
        boolean ofWord = now.hasWord(what - 10);
        if (what != 0 && what != 1 && !ofWord) return NONE;
        thought.copyFrom(now.strip);
        now.followPlan(thought);
        if (ofWord) return thought.firstEnd(now.wordAt(what - 10));
        return what == 0 ? thought.size : now.firstOn(thought);
    }

    public int write(int word) {
        if (word == -1) return writeStrip();
        if (!now.hasWord(word)) return NONE;
        return writeWord(now.wordAt(word));
    }

    public int paper(int i) {
        return i >= 0 && i < writtenSize && i < STRIP_SIZE ? written[i] : NONE;
    }

    // ---- lists, the image

    public int judge(int list) {
        if (!hasList(list)) return NONE;
        if (listSizes[list] < 0) return NOTHING;
        for (int i = 0; i < listSizes[list] && i < LIST_SIZE; i++) {
            int due = now.hasWord(i) ? now.strip.firstEnd(now.wordAt(i)) : NOT;
            if (lists[list][i] != due) return i;
        }
        return NOT;
    }

    public int list(int list, int n) {
        if (!hasList(list)) return NONE;
        if (n > LIST_SIZE) return BAD;
        if (n < 0) return BELOW;
        listSizes[list] = n;
        Arrays.fill(lists[list], 0);
        return 1;
    }

    public int put(int list, int i, int v) {
        if (!hasList(list)) return NONE;
        if (listSizes[list] < 0) return NOTHING;
        if (!hasListPlace(list, i)) return BEYOND;
        lists[list][i] = v;
        return 1;
    }

    public long get(int list, int i) {
        return hasList(list) && hasListPlace(list, i) ? lists[list][i] : NO;
    }

    public int image() {
        kept.copyFrom(now);
        isKept = true;
        return now.wordCount;
    }

    public int undo() {
        if (!isKept) return STATE;
        now.copyFrom(kept);
        return now.wordCount;
    }

    public int count(int what) {
        switch (what) {
            case 0: return now.wordCount;
            case 1: return now.strip.size;
            case 2: return now.playerCount;
            case 3: return now.sides;
            case 4: return tape.size;
            case 5: return writtenSize;
            case 6: return now.rowCount;
            default: return BAD;
        }
    }

    // ---- helpers of the calls

    /** How many unlike words the trail has, or how many of them come again and again. */
    private int trailLength(int number, boolean again) {
        steps[0] = number;
        for (int i = 1; i <= ALL_WORDS; i++) {
            int next = Race.bestAnswer(steps[i - 1], now.sides);
            for (int j = 0; j < i; j++) {
                if (steps[j] == next) return again ? i - j : i;
            }
            if (i < ALL_WORDS) steps[i] = next;
        }
        return NONE;
    }

    /** Fills the contest with the set, if chances can be told of it. */
    private boolean isRacingField(int set) {
        if (!now.isSet(set)) return false;
        int size = Integer.bitCount(set);
        if (size < 2 || size > FIELD_SIZE) return false;
        contest.fill(now, set);
        return !contest.hasOneInAnother();
    }

    private static int placeInSet(int set, int word) {
        return Integer.bitCount(set & ((1 << word) - 1));
    }

    private static int mostOfRow(int what) {
        if (what == 0) return 3;
        return what == 1 ? 9 : 2;
    }

    private int writeStrip() {
        writtenSize = now.strip.size;
        for (int i = 0; i < writtenSize && i < STRIP_SIZE; i++) written[i] = signOf(now.strip.letters[i]);
        return writtenSize;
    }

    private int writeWord(int number) {
        writtenSize = Word.length(number);
        for (int i = 0; i < writtenSize && i < STRIP_SIZE; i++) written[i] = signOf(Word.letterAt(number, i));
        return writtenSize;
    }

    private static int signOf(int letter) {
        return 'a' + letter - 1;
    }

    private static boolean hasList(int list) {
        return list >= 0 && list < LISTS;
    }

    private boolean hasListPlace(int list, int i) {
        return i >= 0 && i < listSizes[list] && i < LIST_SIZE;
    }

    /** All that an image holds. */
    private static final class Board {
        int sides = 2;
        final int[] numbers = new int[MOST_WORDS];
        int wordCount;
        final Strip strip = new Strip();
        final int[] kinds = new int[MOST_PLAYERS];
        final int[] owned = new int[MOST_PLAYERS];
        int playerCount;
        final int[] rowWhats = new int[MOST_ROWS];
        final int[] rowValues = new int[MOST_ROWS];
        int rowCount;

        void copyFrom(Board other) {
            sides = other.sides;
            wordCount = other.wordCount;
            playerCount = other.playerCount;
            rowCount = other.rowCount;
            System.arraycopy(other.numbers, 0, numbers, 0, MOST_WORDS);
            System.arraycopy(other.kinds, 0, kinds, 0, MOST_PLAYERS);
            System.arraycopy(other.owned, 0, owned, 0, MOST_PLAYERS);
            System.arraycopy(other.rowWhats, 0, rowWhats, 0, MOST_ROWS);
            System.arraycopy(other.rowValues, 0, rowValues, 0, MOST_ROWS);
            strip.copyFrom(other.strip);
        }

        boolean hasWord(int word) {
            return word >= 0 && word < wordCount && word < MOST_WORDS;
        }

        boolean areTwoWords(int one, int other) {
            return hasWord(one) && hasWord(other) && one != other;
        }

        int wordAt(int word) {
            return hasWord(word) ? numbers[word] : 0;
        }

        void addWord(int number) {
            if (wordCount < 0 || wordCount >= MOST_WORDS) return;
            numbers[wordCount] = number;
            wordCount++;
        }

        boolean hasThirdLetter() {
            for (int i = 0; i < wordCount; i++) {
                if (!Word.isWord(wordAt(i), 2)) return true;
            }
            for (int i = 0; i < strip.size; i++) {
                if (strip.letterAt(i) == 3) return true;
            }
            return false;
        }

        boolean isSet(int set) {
            return set >= 0 && set < 1 << wordCount;
        }

        boolean isInSet(int set, int word) {
            return hasWord(word) && (set >> word & 1) == 1;
        }

        /** The word that ends first on a strip; of those that end together the longest, then the first told. */
        int firstOn(Strip row) {
            int best = NOT;
            int bestEnd = STRIP_SIZE;
            int bestLength = 0;
            for (int i = 0; i < wordCount; i++) {
                int end = row.firstEnd(wordAt(i));
                int length = Word.length(wordAt(i));
                if (end == NOT || end > bestEnd) continue;
                if (end < bestEnd || length > bestLength) {
                    best = i;
                    bestEnd = end;
                    bestLength = length;
                }
            }
            return best;
        }

        boolean hasPlayer(int player) {
            return player >= 0 && player < playerCount && player < MOST_PLAYERS;
        }

        boolean areTwoPlayers(int one, int other) {
            return hasPlayer(one) && hasPlayer(other) && one != other;
        }

        boolean addPlayer(int kind, int word) {
            if (playerCount < 0 || playerCount >= MOST_PLAYERS) return false;
            kinds[playerCount] = kind;
            owned[playerCount] = word;
            playerCount++;
            return true;
        }

        int firstPick(int player) {
            return hasPlayer(player) ? pickAgainst(player, wordAt(owned[player])) : 0;
        }

        int pickAgainst(int player, int against) {
            if (!hasPlayer(player)) return 0;
            int own = wordAt(owned[player]);
            switch (kinds[player]) {
                case 1: return Word.turned(own);
                case 2: return Word.answering(against, sides);
                case 3: return Word.shifted(Word.turned(own), sides);
                case 4: return Race.bestAnswer(against, sides);
                case 5: return Word.doubled(Word.shifted(Word.turned(own), sides));
                default: return own;
            }
        }

        int wins(int player) {
            if (!hasPlayer(player)) return 0;
            int own = pickAgainst(player, wordAt(owned[player]));
            int won = 0;
            for (int other = 0; other < playerCount; other++) {
                if (other != player && Race.beats(own, pickAgainst(other, own), sides)) won++;
            }
            return won;
        }

        boolean addRow(int what, int v) {
            if (rowCount < 0 || rowCount >= MOST_ROWS) return false;
            rowWhats[rowCount] = what;
            rowValues[rowCount] = v;
            rowCount++;
            return true;
        }

        void followPlan(Strip row) {
            for (int i = 0; i < rowCount && i < MOST_ROWS; i++) {
                int v = rowValues[i];
                if (rowWhats[i] == 1) {
                    row.dropLast(v);
                } else if (rowWhats[i] == 2) {
                    for (int times = 0; times < v; times++) row.putOneOn(sides);
                } else if (v <= sides) {
                    row.append(v);
                }
            }
        }
    }

    /** A row of letters thrown. */
    private static final class Strip {
        final int[] letters = new int[STRIP_SIZE];
        int size;

        void copyFrom(Strip other) {
            size = other.size;
            System.arraycopy(other.letters, 0, letters, 0, STRIP_SIZE);
        }

        boolean hasPlace(int place) {
            return place >= 0 && place < size && place < STRIP_SIZE;
        }

        int letterAt(int place) {
            return hasPlace(place) ? letters[place] : 0;
        }

        boolean append(int letter) {
            if (size < 0 || size >= STRIP_SIZE) return false;
            letters[size] = letter;
            size++;
            return true;
        }

        void dropLast(int v) {
            size = Math.max(0, size - v);
        }

        void putOneOn(int sides) {
            for (int i = 0; i < size && i < STRIP_SIZE; i++) letters[i] = Word.oneOn(letters[i], sides);
        }

        long endBits(int number) {
            long bits = 0;
            int tail = 0;
            for (int i = 0; i < size; i++) {
                tail = Word.grown(tail, letterAt(i));
                if (Word.endsWith(tail, number)) bits |= 1L << i;
            }
            return bits;
        }

        int firstEnd(int number) {
            int tail = 0;
            for (int i = 0; i < size; i++) {
                tail = Word.grown(tail, letterAt(i));
                if (Word.endsWith(tail, number)) return i;
            }
            return NOT;
        }

        int matched(int number) {
            int tail = 0;
            for (int i = size - MOST_LETTERS; i < size; i++) tail = Word.grown(tail, letterAt(i));
            for (int k = Word.length(number); k > 0; k--) {
                if (Word.firstLetters(number, k) == Word.lastLetters(tail, k)) return k;
            }
            return 0;
        }
    }

    /**
     * Words as their numbers, a digit a letter. No letter is 0, so a number with fewer digits than a word never
     * passes for its end, and a row's tail of five digits tells all that words need to know of the row.
     */
    private static final class Word {
        private static final int[] TENS = {1, 10, 100, 1000, 10000, 100000};

        static int tens(int k) {
            return k >= 0 && k < TENS.length ? TENS[k] : 1;
        }

        static int length(int number) {
            if (number >= 1000) return number >= 10000 ? 5 : 4;
            if (number >= 10) return number >= 100 ? 3 : 2;
            return number >= 1 ? 1 : 0;
        }

        static boolean isWord(int number, int sides) {
            if (number < 1 || number >= tens(MOST_LETTERS)) return false;
            for (int k = length(number); k > 0; k--) {
                int letter = firstLetters(number, k) % 10;
                if (letter < 1 || letter > sides) return false;
            }
            return true;
        }

        static int letterAt(int number, int place) {
            return firstLetters(number, place + 1) % 10;
        }

        static int firstLetters(int number, int k) {
            return number / tens(length(number) - k);
        }

        static int lastLetters(int number, int k) {
            return number % tens(k);
        }

        static int grown(int tail, int letter) {
            return tail % 10000 * 10 + letter;
        }

        static boolean endsWith(int tail, int number) {
            return number > 0 && lastLetters(tail, length(number)) == number;
        }

        static int overlapBits(int one, int other) {
            int length = length(other);
            int most = Math.min(length(one), length);
            int bits = 0;
            for (int k = 1; k <= most; k++) {
                if (one % tens(k) == other / tens(length - k)) bits |= 1 << (k - 1);
            }
            return bits;
        }

        static int numberOn(int one, int other, int sides) {
            int bits = overlapBits(one, other);
            int power = 1;
            int sum = 0;
            for (int k = 0; k < MOST_LETTERS; k++) {
                power *= sides;
                if ((bits >> k & 1) == 1) sum += power;
            }
            return sum;
        }

        static boolean standsIn(int one, int other) {
            int size = tens(length(one));
            int most = length(other) - length(one);
            for (int k = 0; k <= most; k++) {
                if (other / tens(k) % size == one) return true;
            }
            return false;
        }

        static boolean clash(int one, int other) {
            return standsIn(one, other) || standsIn(other, one);
        }

        static int oneOn(int letter, int sides) {
            return letter < sides ? letter + 1 : 1;
        }

        static int turned(int number) {
            int made = 0;
            for (int i = length(number) - 1; i >= 0; i--) made = made * 10 + letterAt(number, i);
            return made;
        }

        static int shifted(int number, int sides) {
            int made = 0;
            int length = length(number);
            for (int i = 0; i < length; i++) made = made * 10 + oneOn(letterAt(number, i), sides);
            return made;
        }

        static int doubled(int number) {
            return ledBy(letterAt(number, 0), number);
        }

        static int answering(int number, int sides) {
            int second = length(number) > 1 ? letterAt(number, 1) : number;
            return ledBy(oneOn(second, sides), number);
        }

        /** The word without its last letter, another one put ahead. */
        private static int ledBy(int letter, int number) {
            return letter * tens(length(number) - 1) + number / 10;
        }

        static int least(int length) {
            return tens(length) / 9;
        }

        /** The next greater word of as many letters; 0, if there is none. */
        static int following(int number, int sides) {
            int made = number;
            int length = length(number);
            for (int k = 0; k < length; k++) {
                int letter = made / tens(k) % 10;
                if (letter < sides) return made + tens(k);
                made -= (letter - 1) * tens(k);
            }
            return 0;
        }
    }

    /** A word against a word. */
    private static final class Race {
        /** One's share of the chance against the other; above 0, if neither is in the other. */
        static int share(int one, int other, int sides) {
            return Word.numberOn(other, other, sides) - Word.numberOn(other, one, sides);
        }

        static long chancePart(int one, int other, int sides, int part) {
            if (Word.clash(one, other)) return NO;
            int above = share(one, other, sides);
            return Fraction.partOf(above, above + share(other, one, sides), part);
        }

        static boolean beats(int one, int other, int sides) {
            return !Word.clash(one, other) && share(one, other, sides) > share(other, one, sides);
        }

        static int bestAnswer(int number, int sides) {
            int wait = Word.numberOn(number, number, sides);
            int best = 0;
            int bestShare = 0;
            int bestRest = 1;
            int candidate = Word.least(Word.length(number));
            for (int i = 0; i < ALL_WORDS && candidate > 0; i++) {
                if (candidate != number) {
                    int share = wait - Word.numberOn(number, candidate, sides);
                    int rest = Word.numberOn(candidate, candidate, sides) - Word.numberOn(candidate, number, sides);
                    // More by its rest is more of the whole, too; only more: of like ones the first stays.
                    if (share * bestRest > bestShare * rest) {
                        best = candidate;
                        bestShare = share;
                        bestRest = rest;
                    }
                }
                candidate = Word.following(candidate, sides);
            }
            return best;
        }
    }

    private static final class Fraction {
        static boolean isPart(int part) {
            return part == 0 || part == 1;
        }

        static long partOf(long above, long below, int part) {
            long divisor = commonDivisor(above, below);
            if (below == 0 || divisor == 0) return NO;
            long lowest = (part == 0 ? above : below) / divisor;
            return below / divisor < 0 ? -lowest : lowest;
        }

        private static long commonDivisor(long one, long other) {
            long big = one;
            long small = other;
            // A hundred steps are more than any two longs need.
            for (int i = 0; i < 100 && small != 0; i++) {
                long rest = big % small;
                big = small;
                small = rest;
            }
            return big;
        }
    }

    /** A few words, of which one ends first. */
    private static final class Field {
        private final int[] numbers = new int[FIELD_SIZE];
        private int size;
        private int sides;
        private final int[][] apart = new int[FIELD_SIZE - 1][FIELD_SIZE];
        private final int[][] endings = new int[FIELD_SIZE][MOST_THROWS + 1];
        private final int[] open = new int[MOST_THROWS + 1];

        void fill(Board board, int set) {
            sides = board.sides;
            size = 0;
            for (int i = 0; i < board.wordCount && size < FIELD_SIZE; i++) {
                if (board.isInSet(set, i)) {
                    numbers[size] = board.wordAt(i);
                    size++;
                }
            }
        }

        boolean hasOneInAnother() {
            for (int i = 0; i < size; i++) {
                for (int j = 0; j < i; j++) {
                    if (Word.clash(numbers[i], numbers[j])) return true;
                }
            }
            return false;
        }

        long chancePart(int place, int part) {
            if (place < 0 || place >= size) return NO;
            setApart();
            return Fraction.partOf(weight(place), wholeWeight(), part);
        }

        long meanPart(int part) {
            setApart();
            long sum = 0;
            for (int i = 0; i < size; i++) sum += weight(i) * Word.numberOn(numbers[i], numbers[0], sides);
            return Fraction.partOf(sum, wholeWeight(), part);
        }

        /**
         * The sums of all words are alike (each is the mean): so each other one's sum less the first one's is 0,
         * and the chances go as the minors of these rows.
         */
        private void setApart() {
            for (int row = 0; row < size - 1; row++) {
                for (int i = 0; i < size; i++) {
                    apart[row][i] = Word.numberOn(numbers[i], numbers[row + 1], sides)
                            - Word.numberOn(numbers[i], numbers[0], sides);
                }
            }
        }

        private long weight(int place) {
            long minor = minor(apart, size, 0, 1 << place);
            return (place & 1) == 0 ? minor : -minor;
        }

        private long wholeWeight() {
            long sum = 0;
            for (int i = 0; i < size; i++) sum += weight(i);
            return sum;
        }

        /** The determinant of the rows from a row on, without the columns of the bits. */
        private static long minor(int[][] rows, int size, int row, int gone) {
            if (row < 0 || row >= size - 1 || row >= FIELD_SIZE - 1) return 1;
            long sum = 0;
            int sign = 1;
            for (int i = 0; i < size && i < FIELD_SIZE; i++) {
                if ((gone >> i & 1) == 0) {
                    sum += sign * rows[row][i] * minor(rows, size, row + 1, gone | 1 << i);
                    sign = -sign;
                }
            }
            return sum;
        }

        /** Of all rows of n throws those in which the word at a place ends ahead of the others. */
        int rowsWithin(int place, int n) {
            if (place < 0 || place >= size) return 0;
            countEndings(n);
            int sum = 0;
            for (int m = 1; m <= n && m <= MOST_THROWS; m++) sum = sum * sides + endings[place][m];
            return sum;
        }

        /** Rows of m throws that are open (no word ended), or in which a word ends just then, as the first. */
        private void countEndings(int n) {
            open[0] = 1;
            for (int m = 1; m <= n && m <= MOST_THROWS; m++) {
                open[m] = open[m - 1] * sides;
                for (int i = 0; i < size; i++) {
                    endings[i][m] = endingsAt(i, m);
                    open[m] -= endings[i][m];
                }
            }
        }

        /**
         * An open row with the word put behind it ends with the word; less those in which some word ended ahead
         * of that, by an overlap on this one.
         */
        private int endingsAt(int place, int m) {
            int start = m - Word.length(numbers[place]);
            if (start < 0) return 0;
            int sum = open[start];
            for (int i = 0; i < size; i++) {
                int bits = Word.overlapBits(numbers[i], numbers[place]);
                for (int k = 1; start + k < m; k++) {
                    if ((bits >> (k - 1) & 1) == 1) sum -= endings[i][start + k];
                }
            }
            return sum;
        }
    }

    /** The shortest ring of words each of which beats the next. */
    private static final class Ring {
        private final int[] row = new int[MOST_WORDS];
        private final int[] beaten = new int[MOST_WORDS];

        int wordAt(int k) {
            return k >= 0 && k < MOST_WORDS ? row[k] : NOT;
        }

        /** How many words the ring has; 0, if there is none. */
        int find(Board board) {
            int words = Math.min(board.wordCount, MOST_WORDS);
            for (int i = 0; i < words; i++) {
                beaten[i] = 0;
                for (int j = 0; j < words; j++) {
                    if (Race.beats(board.wordAt(i), board.wordAt(j), board.sides)) beaten[i] |= 1 << j;
                }
            }
            for (int size = 3; size <= words; size++) {
                if (closes(this, (1 << words) - 1, 0, size)) return size;
            }
            return 0;
        }

        /** Whether the row so far goes on with some of the words left to a ring of a size; the least are tried first. */
        private static boolean closes(Ring ring, int left, int depth, int size) {
            if (depth < 0) return false;
            if (depth >= size || depth >= MOST_WORDS) return ring.isBeaten(depth - 1, ring.row[0]);
            for (int i = 0; i < MOST_WORDS; i++) {
                if ((left >> i & 1) == 1 && (depth == 0 || ring.isBeaten(depth - 1, i))) {
                    ring.row[depth] = i;
                    if (closes(ring, left & ~(1 << i), depth + 1, size)) return true;
                }
            }
            return false;
        }

        private boolean isBeaten(int place, int word) {
            return place >= 0 && place < MOST_WORDS && (beaten[row[place]] >> word & 1) == 1;
        }
    }

    /** Letters drawn by a seed till one of two words ends. */
    private static final class Duel {
        int winner;
        int throwCount;

        static int nextSeed(int z) {
            return z * 1103515245 + 12345;
        }

        static int drawn(int z, int sides) {
            return 1 + (sides == 3 ? (z >>> 16) % 3 : (z >>> 16) % 2);
        }

        void run(int first, int second, int seed, int sides) {
            int z = seed;
            int tail = 0;
            winner = NOT;
            throwCount = 0;
            while (throwCount < DUEL_SIZE && winner == NOT) {
                z = nextSeed(z);
                tail = Word.grown(tail, drawn(z, sides));
                throwCount++;
                if (Word.endsWith(tail, first)) winner = 0;
                else if (Word.endsWith(tail, second)) winner = 1;
            }
        }
    }

    /** Bytes fed, and the words that they tell. */
    private static final class Tape {
        static final int FAULTLESS = -1;

        final int[] bytes = new int[TAPE_SIZE];
        int size;
        final int[] told = new int[MOST_WORDS];
        int toldCount;
        private int clause;
        /** The letter that a figure would repeat; 0, where no figure may stand. */
        private int repeatable;

        boolean append(int sign) {
            if (size < 0 || size >= TAPE_SIZE) return false;
            bytes[size] = sign;
            size++;
            return true;
        }

        /** The place of the fault, or FAULTLESS: then the words are told. */
        int read(int sides) {
            toldCount = 0;
            clause = 0;
            repeatable = 0;
            for (int i = 0; i < size && i < TAPE_SIZE; i++) {
                if (!goesOn(bytes[i], sides)) return i;
            }
            return endClause() ? FAULTLESS : size;
        }

        private boolean goesOn(int sign, int sides) {
            if (sign == ';') return endClause();
            if (sign >= '2' && sign <= '5') {
                int letter = repeatable;
                repeatable = 0;
                return letter != 0 && addLetters(letter, sign - '1');
            }
            if (sign < 'a' || sign >= 'a' + sides) return false;
            repeatable = sign - 'a' + 1;
            return addLetters(repeatable, 1);
        }

        private boolean addLetters(int letter, int times) {
            if (Word.length(clause) + times > MOST_LETTERS) return false;
            for (int i = 0; i < times; i++) clause = clause * 10 + letter;
            return true;
        }

        /** Words beyond what there is room for are counted, not kept: they are refused together. */
        private boolean endClause() {
            if (clause == 0) return false;
            if (toldCount >= 0 && toldCount < MOST_WORDS) told[toldCount] = clause;
            toldCount++;
            clause = 0;
            repeatable = 0;
            return true;
        }
    }
}
