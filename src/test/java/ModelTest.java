import java.util.Random;

/** All promises: long runs of calls, drawn, whose answers are judged by the document's second writing. */
public final class ModelTest {
    private static final int RUNS = 600;
    private static final int CALLS = 512;
    private static final int MOST_OF_A_TURN = 40;
    private static final int[] ODD = {-2, -1, 40, 60, 64, 1000, Integer.MAX_VALUE, Integer.MIN_VALUE, Integer.MIN_VALUE + 3};

    private final Random random;
    private final WordRace race = new WordRace();
    private final Model model = new Model();
    private final int run;
    private int calls;

    private ModelTest(int run) {
        this.run = run;
        random = new Random(run);
    }

    public static void main(String[] args) {
        for (int run = 0; run < RUNS; run++) new ModelTest(run).play();
        Due.end();
    }

    private void play() {
        if (random.nextInt(2) == 0) due("sides", race.sides(3), model.sides(3), 3);
        while (calls < CALLS - MOST_OF_A_TURN) turn();
        // Each of these is one call, so the last one is the last that is promised.
        while (calls < CALLS) askStrip();
    }

    private void turn() {
        switch (random.nextInt(5)) {
            case 0: change(); break;
            case 1: askWords(); break;
            case 2: askStrip(); break;
            case 3: askPlayers(); break;
            default: rest();
        }
    }

    private void due(String call, long got, long want, int... arguments) {
        calls++;
        StringBuilder text = new StringBuilder("run " + run + ": " + call + "(");
        for (int i = 0; i < arguments.length; i++) text.append(i == 0 ? "" : ", ").append(arguments[i]);
        Due.due(text.append(')').toString(), got, want);
    }

    /** A number from -1 to most, now and then a far one. */
    private int upTo(int most) {
        int k = random.nextInt(40);
        if (k == 0) return ODD[random.nextInt(ODD.length)];
        return k == 1 ? random.nextInt(most + 3) - 1 : random.nextInt(most + 1);
    }

    private int word() {
        return upTo(Math.max(0, model.count(0) - 1));
    }

    private int set() {
        int k = random.nextInt(12);
        if (k == 0) return upTo(127);
        int bits = 0;
        for (int i = random.nextInt(3); i >= -1; i--) bits |= 1 << random.nextInt(6);
        return bits;
    }

    private int someNumber() {
        int number = 0;
        int length = 1 + random.nextInt(random.nextInt(8) == 0 ? 6 : 5);
        for (int i = 0; i < length; i++) number = number * 10 + 1 + random.nextInt(random.nextInt(20) == 0 ? 4 : model.count(3));
        return number;
    }

    private String text() {
        if (random.nextInt(6) == 0) {
            StringBuilder wild = new StringBuilder();
            for (int i = random.nextInt(9); i >= 0; i--) wild.append("aabbc;;23456d A".charAt(random.nextInt(15)));
            return wild.toString();
        }
        StringBuilder text = new StringBuilder();
        for (int i = random.nextInt(3); i >= 0; i--) {
            int left = 1 + random.nextInt(5);
            while (left > 0) {
                text.append((char) ('a' + random.nextInt(model.count(3))));
                int times = random.nextInt(3) == 0 ? 1 + random.nextInt(left) : 1;
                if (times > 1) text.append((char) ('0' + times));
                left -= times;
            }
            if (i > 0) text.append(';');
        }
        return text.toString();
    }

    private void change() {
        int a = word();
        switch (random.nextInt(12)) {
            case 0: case 1:
                for (char c : text().toCharArray()) due("feed", race.feed(c), model.feed(c), c);
                if (random.nextInt(8) > 0) due("words", race.words(), model.words());
                break;
            case 2: case 3: {
                int number = someNumber();
                due("becomes", race.becomes(a, number), model.becomes(a, number), a, number);
                break;
            }
            case 4: {
                int n = random.nextInt(10) == 0 ? 1 + upTo(3) : 2 + random.nextInt(2);
                due("sides", race.sides(n), model.sides(n), n);
                break;
            }
            case 5: {
                int byteFed = random.nextInt(3) == 0 ? random.nextInt(140) - 5 : 97;
                due("feed", race.feed(byteFed), model.feed(byteFed), byteFed);
                break;
            }
            case 6: case 7: {
                int letter = upTo(3);
                due("cast", race.cast(letter), model.cast(letter), letter);
                break;
            }
            case 8: {
                int n = random.nextInt(3) == 0 ? upTo(41) : upTo(9);
                int seed = random.nextInt();
                due("casts", race.casts(n, seed), model.casts(n, seed), n, seed);
                break;
            }
            case 9:
                if (random.nextInt(3) == 0) due("wipe", race.wipe(), model.wipe());
                break;
            case 10: {
                int kind = upTo(5);
                due("player", race.player(kind, a), model.player(kind, a), kind, a);
                break;
            }
            default:
                if (random.nextInt(3) == 0) due("image", race.image(), model.image());
                else if (random.nextInt(6) == 0) due("undo", race.undo(), model.undo());
        }
    }

    private void askWords() {
        int a = word();
        int b = word();
        int part = upTo(1);
        int set = set();
        switch (random.nextInt(11)) {
            case 0: {
                int what = upTo(2);
                due("of", race.of(a, what), model.of(a, what), a, what);
                break;
            }
            case 1: due("overlaps", race.overlaps(a, b), model.overlaps(a, b), a, b); break;
            case 2: due("number", race.number(a, b), model.number(a, b), a, b); break;
            case 3: due("isIn", race.isIn(a, b), model.isIn(a, b), a, b); break;
            case 4: due("chance", race.chance(a, b, part), model.chance(a, b, part), a, b, part); break;
            case 5: due("mean", race.mean(set, part), model.mean(set, part), set, part); break;
            case 6: case 7: due("field", race.field(set, a, part), model.field(set, a, part), set, a, part); break;
            case 8: {
                int n = random.nextInt(40) == 0 ? upTo(12) : upTo(6);
                due("within", race.within(set, a, n), model.within(set, a, n), set, a, n);
                break;
            }
            case 9: {
                int k = upTo(5) - 1;
                due("ring", race.ring(k), model.ring(k), k);
                break;
            }
            default: askAnswers(a, part);
        }
    }

    /** Dear to the model, so asked seldom. */
    private void askAnswers(int a, int part) {
        if (random.nextInt(8) > 0) return;
        due("of", race.of(a, 3), model.of(a, 3), a, 3);
        due("answered", race.answered(a, part), model.answered(a, part), a, part);
        if (random.nextInt(4) == 0) due("trail", race.trail(a, part), model.trail(a, part), a, part);
    }

    private void askStrip() {
        int a = word();
        int place = upTo(Math.max(0, model.count(1)));
        switch (random.nextInt(6)) {
            case 0: due("strip", race.strip(place), model.strip(place), place); break;
            case 1: due("ends", race.ends(a), model.ends(a), a); break;
            case 2: {
                int what = upTo(2);
                due("seen", race.seen(a, what), model.seen(a, what), a, what);
                break;
            }
            case 3: due("who", race.who(), model.who()); break;
            case 4: due("were", race.were(place, a), model.were(place, a), place, a); break;
            default: {
                int what = random.nextInt(2) == 0 ? upTo(1) : 10 + upTo(5);
                due("behind", race.behind(what), model.behind(what), what);
            }
        }
    }

    private void askPlayers() {
        int one = upTo(3);
        int other = upTo(3);
        int part = upTo(1);
        int a = word();
        int b = word();
        int seed = random.nextInt(4) == 0 ? Integer.MAX_VALUE - random.nextInt(20) : random.nextInt();
        switch (random.nextInt(6)) {
            case 0: {
                int what = random.nextInt(10) == 0 ? 2 : upTo(1);
                due("playerOf", race.playerOf(one, what), model.playerOf(one, what), one, what);
                break;
            }
            case 1:
                if (random.nextInt(4) > 0) break;
                due("pick", race.pick(one, other, part), model.pick(one, other, part), one, other, part);
                break;
            case 2:
                if (random.nextInt(4) > 0) break;
                due("match", race.match(one, other, part), model.match(one, other, part), one, other, part);
                break;
            case 3: case 4: {
                due("duel", race.duel(a, b, seed, part), model.duel(a, b, seed, part), a, b, seed, part);
                break;
            }
            default: {
                int m = upTo(30);
                due("odds", race.odds(a, b, seed, m, part), model.odds(a, b, seed, m, part), a, b, seed, m, part);
            }
        }
    }

    private void rest() {
        int list = upTo(3);
        int i = upTo(12);
        switch (random.nextInt(9)) {
            case 0: {
                int what = random.nextInt(12) == 0 ? -1 : upTo(2);
                int v = upTo(9);
                due("plan", race.plan(what, v), model.plan(what, v), what, v);
                break;
            }
            case 1: {
                int word = random.nextInt(3) == 0 ? -1 : word();
                due("write", race.write(word), model.write(word), word);
                break;
            }
            case 2: {
                int place = upTo(Math.max(1, model.count(5)));
                due("paper", race.paper(place), model.paper(place), place);
                break;
            }
            case 3: due("judge", race.judge(list), model.judge(list), list); break;
            case 4:
                if (random.nextInt(4) == 0) due("list", race.list(list, i), model.list(list, i), list, i);
                break;
            case 5: case 6: {
                int right = Math.max(-5, model.seen(i, 0));
                int v = random.nextInt(3) == 0 ? random.nextInt(50) - 5 : right == -1 ? -5 : right;
                due("put", race.put(list, i, v), model.put(list, i, v), list, i, v);
                break;
            }
            case 7: due("get", race.get(list, i), model.get(list, i), list, i); break;
            default: {
                int what = upTo(6);
                due("count", race.count(what), model.count(what), what);
            }
        }
    }
}
