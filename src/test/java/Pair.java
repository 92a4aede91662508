import java.lang.reflect.Method;
import java.util.Arrays;

/** An object and its model, called alike: each answer of the one is held against that of the other. */
final class Pair {
    private static final int CALLS = 512;

    private final WordRace race = new WordRace();
    private final Model model = new Model();
    private final String name;
    private int calls;

    Pair(String name) {
        this.name = name;
    }

    /** Whether so many calls more are promised. */
    boolean hasRoom(int more) {
        return calls + more <= CALLS;
    }

    void call(String method, int... arguments) {
        if (!hasRoom(1)) throw new IllegalStateException("more calls than are promised");
        calls++;
        long got = answer(race, method, arguments);
        long want = answer(model, method, arguments);
        String shown = Arrays.toString(arguments);
        Due.due(name + ": " + method + "(" + shown.substring(1, shown.length() - 1) + ")", got, want);
    }

    void tell(String text) {
        for (char c : text.toCharArray()) call("feed", c);
        call("words");
    }

    /** All that can be seen of the state. */
    void look() {
        for (int what = 0; what < 7; what++) call("count", what);
        for (int w = 0; w < model.count(0); w++) call("of", w, 0);
        for (int i = 0; i <= model.count(1); i++) call("strip", i);
        for (int p = 0; p < model.count(2); p++) {
            call("playerOf", p, 0);
            call("playerOf", p, 1);
        }
        for (int i = 0; i <= model.count(5); i++) call("paper", i);
        for (int list = 0; list < 4; list++) {
            call("judge", list);
            for (int i = 0; i < 12; i++) call("get", list, i);
        }
        call("behind", 0);
        for (int w = 0; w < model.count(0); w++) call("behind", 10 + w);
    }

    private static long answer(Object one, String method, int[] arguments) {
        try {
            for (Method m : one.getClass().getDeclaredMethods()) {
                if (!m.getName().equals(method) || !takesInts(m, arguments.length)) continue;
                Object[] boxed = Arrays.stream(arguments).boxed().toArray();
                return ((Number) m.invoke(one, boxed)).longValue();
            }
        } catch (ReflectiveOperationException e) {
            throw new IllegalStateException(one.getClass() + " " + method + Arrays.toString(arguments), e);
        }
        throw new IllegalStateException("no " + method);
    }

    private static boolean takesInts(Method m, int count) {
        if (m.getParameterCount() != count) return false;
        for (Class<?> type : m.getParameterTypes()) if (type != int.class) return false;
        return true;
    }
}
