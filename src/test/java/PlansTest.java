/** Promises 31 to 34: plans and what is behind them, words and the strip written. */
public final class PlansTest {
    public static void main(String[] args) {
        plan();
        behind();
        behindTheEdges();
        behindOfThree();
        behindIsWrong();
        write();
        paper();
        Due.end();
    }

    private static void plan() {
        WordRace x = new WordRace();
        int[][] bad = {{0, 0}, {0, 4}, {0, -1}, {1, 0}, {1, 10}, {1, -1}, {2, 0}, {2, 3}, {2, -1}};
        for (int[] row : bad) Due.due("plan(" + row[0] + ", " + row[1] + ")", x.plan(row[0], row[1]), -2);
        int[] none = {-2, 3, Integer.MIN_VALUE, Integer.MAX_VALUE};
        for (int what : none) Due.due("plan(" + what + ", 1)", x.plan(what, 1), -1);
        Due.due("NONE ahead of BAD", x.plan(3, 0), -1);
        int[][] rows = {{0, 1}, {0, 2}, {0, 3}, {1, 1}, {1, 9}, {2, 1}, {2, 2}, {0, 3}};
        for (int i = 0; i < rows.length; i++) Due.due("row " + i, x.plan(rows[i][0], rows[i][1]), i + 1);
        Due.due("a ninth", x.plan(0, 1), -4);
        Due.due("BAD ahead of FULL", x.plan(0, 4), -2);
        Due.due("NONE ahead of FULL", x.plan(3, 1), -1);
        Due.due("eight", x.count(6), 8);
        Due.due("plan(-1, 99)", x.plan(-1, 99), 0);
        Due.due("empty", x.count(6), 0);
        Due.due("plan(-1, 0) of none", x.plan(-1, 0), 0);
        Due.due("anew", x.plan(1, 5), 1);
    }

    private static void behindIs(WordRace x, int size, int who, int... firsts) {
        Due.due("behind(0)", x.behind(0), size);
        Due.due("behind(1)", x.behind(1), who);
        for (int w = 0; w < firsts.length; w++) Due.due("behind(" + (10 + w) + ")", x.behind(10 + w), firsts[w]);
    }

    private static void behind() {
        WordRace x = Due.with(2, "ba;bb;abab");
        Due.cast(x, "aba");
        behindIs(x, 3, 0, 2, -5, -5);
        x.plan(0, 2);
        behindIs(x, 4, 0, 2, -5, 3);
        x.plan(2, 1);
        x.plan(1, 1);
        behindIs(x, 3, 0, 1, -5, -5);
        Due.due("but who() stays", x.who(), 0);
    }

    private static void behindTheEdges() {
        WordRace x = Due.with(2, "ba;bb");
        Due.cast(x, "ab");
        x.plan(1, 9);
        behindIs(x, 0, -5, -5, -5);
        x.plan(0, 3);
        behindIs(x, 0, -5, -5, -5);
        x.plan(0, 1);
        x.plan(2, 2);
        behindIs(x, 1, -5, -5, -5);
        x.plan(2, 1);
        x.plan(0, 1);
        behindIs(x, 2, 0, 1, -5);
        x.plan(1, 1);
        x.plan(0, 2);
        behindIs(x, 2, 1, -5, 1);
        Due.due("the strip stays", x.count(1), 2);
        Due.due("its letters stay", x.strip(0) * 10 + x.strip(1), 12);
        WordRace y = Due.with(2, "b;a");
        for (int i = 0; i < 40; i++) y.cast(1);
        y.plan(0, 2);
        behindIs(y, 40, 1, -5, 0);
        y.plan(1, 2);
        y.plan(0, 2);
        behindIs(y, 39, 1, 38, 0);
    }

    private static void behindOfThree() {
        WordRace x = Due.with(3, "ca;bc;c");
        Due.cast(x, "bc");
        x.plan(0, 3);
        behindIs(x, 3, 1, -5, 1, 1);
        x.plan(2, 1);
        behindIs(x, 3, 2, 1, -5, 0);
        x.plan(2, 2);
        behindIs(x, 3, 1, -5, 1, 1);
        x.plan(-1, 0);
        x.plan(2, 2);
        behindIs(x, 2, -5, -5, -5, -5);
    }

    private static void behindIsWrong() {
        WordRace x = Due.with(2, "ba;bb");
        int[] none = {-1, 2, 3, 9, 12, 13, 15, 16, 20, 100, Integer.MIN_VALUE, Integer.MIN_VALUE + 9, Integer.MAX_VALUE};
        for (int what : none) Due.due("behind(" + what + ")", x.behind(what), -1);
        Due.due("behind(11)", x.behind(11), -5);
        Due.due("behind(10) without words", new WordRace().behind(10), -1);
        Due.due("behind(1) without words", new WordRace().behind(1), -5);
        Due.tell(x, "a;a;a;b");
        Due.due("behind(15)", x.behind(15), -5);
        Due.due("behind(16)", x.behind(16), -1);
    }

    private static void write() {
        WordRace x = Due.with(3, "abcab;c");
        Due.due("write(0)", x.write(0), 5);
        Due.text("the word", Due.paper(x), "abcab");
        Due.due("write(1)", x.write(1), 1);
        Due.text("the other word", Due.paper(x), "c");
        Due.due("write(2)", x.write(2), -1);
        Due.due("write(-2)", x.write(-2), -1);
        Due.text("the paper stays", Due.paper(x), "c");
        Due.due("write(-1) of an empty strip", x.write(-1), 0);
        Due.text("nothing", Due.paper(x), "");
        StringBuilder due = new StringBuilder();
        for (int i = 0; i < 40; i++) {
            x.cast(1 + i % 3);
            due.append("abc".charAt(i % 3));
        }
        Due.due("write(-1)", x.write(-1), 40);
        Due.text("the strip", Due.paper(x), due.toString());
        x.wipe();
        Due.text("the paper stays behind wipe()", Due.paper(x), due.toString());
    }

    private static void paper() {
        WordRace x = Due.with(2, "bab");
        Due.due("paper(0) at first", x.paper(0), -1);
        x.write(0);
        int[] due = {98, 97, 98, -1, -1};
        for (int i = 0; i < due.length; i++) Due.due("paper(" + i + ")", x.paper(i), due[i]);
        Due.due("paper(-1)", x.paper(-1), -1);
        Due.due("paper(60)", x.paper(60), -1);
        Due.due("count(5)", x.count(5), 3);
        x.becomes(0, 1);
        Due.due("paper(0) stays", x.paper(0), 98);
        x.write(0);
        Due.due("paper(1) of one letter", x.paper(1), -1);
    }
}
