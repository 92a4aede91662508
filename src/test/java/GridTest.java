import java.util.ArrayList;
import java.util.Arrays;
import java.util.List;

/** All promises: each call with all its arguments at, ahead of and beyond their edges, in states that are edges too. */
public final class GridTest {
    private static final int LEAST = Integer.MIN_VALUE;
    private static final int MOST = Integer.MAX_VALUE;

    private static final int[] WORD = {LEAST, -1, 0, 1, 2, 3, 5, 6, 31, 32, MOST};
    private static final int[] PART = {LEAST, -1, 0, 1, 2, MOST};
    private static final int[] WHAT = {LEAST, -1, 0, 1, 2, 3, 4, MOST};
    private static final int[] SET = {LEAST, LEAST + 3, -1, 0, 1, 3, 6, 7, 15, 31, 32, 33, 48, 60, 63, 64, 65, 127, MOST};
    private static final int[] THROWS = {LEAST, -1, 0, 1, 2, 5, 12, 13, MOST};
    private static final int[] PLACE = {LEAST, -1, 0, 1, 4, 5, 11, 12, 38, 39, 40, 41, 60, MOST};
    private static final int[] PLAYER = {LEAST, -1, 0, 1, 3, 4, MOST};
    private static final int[] SEED = {LEAST, -1, 0, 7, MOST - 1, MOST};
    private static final int[] SEEDS = {LEAST, -1, 0, 1, 2, 30, 31, MOST};
    private static final int[] LIST = {LEAST, -1, 0, 1, 2, 3, 4, MOST};
    private static final int[] BEHIND = {LEAST, LEAST + 9, -1, 0, 1, 2, 9, 10, 11, 12, 15, 16, 42, MOST};
    private static final int[] PAPER = {LEAST, -2, -1, 0, 1, 2, 5, 6, MOST};
    private static final int[] COUNT = {LEAST, -1, 0, 1, 2, 3, 4, 5, 6, 7, MOST};
    private static final int[] BYTE = {LEAST, -1, 0, 1, 97, 127, 128, 353, MOST};
    private static final int[] SIDES = {LEAST, -2, 0, 1, 2, 3, 4, MOST};
    private static final int[] NUMBER = {LEAST, -12, -1, 0, 1, 2, 3, 4, 9, 10, 11, 12, 20, 33, 100, 101, 103, 111, 123, 130,
        222, 1000, 1221, 3333, 9999, 10000, 11111, 12321, 12341, 22222, 33333, 33334, 100000, 111111, 222222, 1111111111, MOST};
    private static final int[] LETTER = {LEAST, -1, 0, 1, 2, 3, 4, 97, MOST};
    private static final int[] CASTS = {LEAST, -1, 0, 1, 2, 39, 40, 41, MOST};
    private static final int[] KIND = {LEAST, -1, 0, 1, 2, 3, 4, 5, 6, MOST};
    private static final int[] ROW = {LEAST, -2, -1, 0, 1, 2, 3, MOST};
    private static final int[] ROW_VALUE = {LEAST, -1, 0, 1, 2, 3, 4, 9, 10, MOST};
    private static final int[] SIZE = {LEAST, -1, 0, 1, 11, 12, 13, MOST};
    private static final int[] VALUE = {LEAST, -5, 0, MOST};

    private static final int STATES = 6;

    public static void main(String[] args) {
        for (int state = 0; state < STATES; state++) {
            asks(state);
            changes(state);
            unsaid(state);
        }
        Due.end();
    }

    private static Pair made(int state) {
        Pair pair = new Pair("state " + state);
        switch (state) {
            case 0: break;
            case 1: oneOfEach(pair); break;
            case 2: some(pair, 2, "aab;bab;aba;abb;ab", "abbab", -5); break;
            case 3: some(pair, 3, "abc;bca;cab;ca2;c", "cabca", 3); break;
            case 4: full(pair, 2, "aab;abb;bba;baa;a5;b5"); break;
            default: full(pair, 3, "a;b;c;c5;abcab;bbc");
        }
        return pair;
    }

    private static void oneOfEach(Pair pair) {
        pair.tell("a");
        pair.call("cast", 1);
        pair.call("player", 0, 0);
        pair.call("plan", 1, 1);
        pair.call("feed", 'b');
        pair.call("write", 0);
        pair.call("list", 0, 1);
    }

    private static void some(Pair pair, int sides, String words, String strip, int first) {
        pair.call("sides", sides);
        pair.tell(words);
        for (char c : strip.toCharArray()) pair.call("cast", c - 'a' + 1);
        pair.call("image");
        pair.call("player", 4, 1);
        pair.call("player", 2, 0);
        pair.call("player", 5, 3);
        pair.call("plan", 0, 3);
        pair.call("plan", 2, 1);
        pair.call("write", 0);
        pair.call("list", 1, 0);
        pair.call("list", 2, 6);
        pair.call("put", 2, 0, first);
        pair.call("feed", ';');
    }

    private static void full(Pair pair, int sides, String words) {
        pair.call("sides", sides);
        pair.tell(words);
        pair.call("casts", 40, 7);
        for (int p = 0; p < 4; p++) pair.call("player", p + 2, p);
        for (int i = 0; i < 8; i++) pair.call("plan", i % 3, 1 + i % 2);
        pair.call("write", -1);
        for (int list = 0; list < 4; list++) pair.call("list", list, 12);
        pair.call("image");
        for (int i = 0; i < 60; i++) pair.call("feed", 'a');
    }

    // ---- asks: many of one object, as they change nothing

    private static void asks(int state) {
        ask(state, "of", WORD, WHAT);
        ask(state, "overlaps", WORD, WORD);
        ask(state, "number", WORD, WORD);
        ask(state, "isIn", WORD, WORD);
        ask(state, "chance", WORD, WORD, PART);
        ask(state, "answered", WORD, PART);
        ask(state, "trail", WORD, WHAT);
        ask(state, "ring", WHAT);
        ask(state, "field", SET, WORD, PART);
        ask(state, "mean", SET, PART);
        ask(state, "within", SET, WORD, THROWS);
        ask(state, "strip", PLACE);
        ask(state, "ends", WORD);
        ask(state, "seen", WORD, WHAT);
        ask(state, "who");
        ask(state, "were", PLACE, WORD);
        ask(state, "playerOf", PLAYER, WHAT);
        ask(state, "pick", PLAYER, PLAYER, WHAT);
        ask(state, "match", PLAYER, PLAYER, PART);
        ask(state, "duel", WORD, WORD, SEED, WHAT);
        ask(state, "odds", new int[] {-1, 0, 1, 4, 6}, new int[] {LEAST, 1, 3, 5}, SEED, SEEDS, PART);
        ask(state, "behind", BEHIND);
        ask(state, "paper", PLACE);
        ask(state, "judge", LIST);
        ask(state, "get", LIST, PLACE);
        ask(state, "count", COUNT);
    }

    private static void ask(int state, String method, int[]... values) {
        Pair pair = made(state);
        for (int[] arguments : rows(values)) {
            if (!pair.hasRoom(1)) pair = made(state);
            pair.call(method, arguments);
        }
    }

    // ---- changes: a new object for each, looked at behind it

    private static void changes(int state) {
        change(state, "sides", SIDES);
        change(state, "feed", BYTE);
        change(state, "words");
        change(state, "becomes", WORD, NUMBER);
        change(state, "cast", LETTER);
        change(state, "casts", CASTS, SEED);
        change(state, "wipe");
        change(state, "player", KIND, WORD);
        change(state, "plan", ROW, ROW_VALUE);
        change(state, "write", PAPER);
        change(state, "list", LIST, SIZE);
        change(state, "put", LIST, SIZE, VALUE);
        change(state, "image");
        change(state, "undo");
    }

    private static void change(int state, String method, int[]... values) {
        for (int[] arguments : rows(values)) {
            Pair pair = made(state);
            pair.call(method, arguments);
            pair.look();
            pair.call("words");
            pair.call("undo");
        }
    }

    /** Texts on the tape of which each goes on from the one ahead of it by a byte. */
    private static void unsaid(int state) {
        String[] texts = {"", "a", "b2", "c3", "a5", "a6", "a1", "ab4", "ab5", "abaab", "abaaba", "a;b", "a;b;", "a;;", ";a",
            "2a", "a22", "a2b2a", "a2b2a2", "A", "a b", "a;a;a;a;a;a", "a;a;a;a;a;a;a", "a;a;a;a;a;a;a;", "c;c;c;c;c;c;c;d"};
        for (String text : texts) {
            Pair pair = made(state);
            pair.call("words");
            pair.tell(text);
            pair.look();
        }
    }

    /** All rows of arguments, one of each of the values. */
    private static List<int[]> rows(int[]... values) {
        List<int[]> rows = new ArrayList<>();
        rows.add(new int[0]);
        for (int[] some : values) {
            List<int[]> longer = new ArrayList<>();
            for (int[] row : rows) {
                for (int value : some) {
                    int[] next = Arrays.copyOf(row, row.length + 1);
                    next[row.length] = value;
                    longer.add(next);
                }
            }
            rows = longer;
        }
        return rows;
    }
}
