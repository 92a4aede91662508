/** Promises 35 to 41: lists, told places judged, the image, counts. */
public final class ListsTest {
    public static void main(String[] args) {
        judge();
        list();
        put();
        get();
        image();
        imageLeavesTheRest();
        undo();
        count();
        Due.end();
    }

    private static void judge() {
        WordRace x = Due.with(2, "ab;bb;a");
        Due.cast(x, "bab");
        Due.due("judge(-1)", x.judge(-1), -1);
        Due.due("judge(4)", x.judge(4), -1);
        Due.due("judge(3) of nothing", x.judge(3), -11);
        x.list(3, 0);
        Due.due("judge of an empty list", x.judge(3), -5);
        x.list(3, 12);
        int[] due = {2, -5, 1, -5, -5, -5, -5, -5, -5, -5, -5, -5};
        for (int i = 0; i < due.length; i++) {
            Due.due("judge, " + i + " right", x.judge(3), i);
            x.put(3, i, due[i]);
        }
        Due.due("judge, all right", x.judge(3), -5);
        x.put(3, 11, -1);
        Due.due("judge, the last wrong", x.judge(3), 11);
        x.list(0, 1);
        x.put(0, 0, 2);
        Due.due("a list of one place", x.judge(0), -5);
        x.cast(2);
        Due.due("bb ends now", x.judge(3), 1);
        x.wipe();
        Due.due("nothing ends now", x.judge(3), 0);
    }

    private static void list() {
        WordRace x = new WordRace();
        Due.due("list(-1, 3)", x.list(-1, 3), -1);
        Due.due("list(4, 3)", x.list(4, 3), -1);
        Due.due("list(4, 13)", x.list(4, 13), -1);
        Due.due("list(0, 13)", x.list(0, 13), -2);
        Due.due("list(0, most)", x.list(0, Integer.MAX_VALUE), -2);
        Due.due("list(0, -1)", x.list(0, -1), -14);
        Due.due("list(0, least)", x.list(0, Integer.MIN_VALUE), -14);
        Due.due("nothing held", x.judge(0), -11);
        Due.due("list(0, 12)", x.list(0, 12), 1);
        for (int i = 0; i < 12; i++) Due.due("all 0", x.get(0, i), 0);
        Due.due("list(1, 0)", x.list(1, 0), 1);
        x.put(0, 0, 7);
        x.put(0, 2, 8);
        Due.due("list(0, 13) again", x.list(0, 13), -2);
        Due.due("list(0, -1) again", x.list(0, -1), -14);
        Due.due("it stays", x.get(0, 0), 7);
        Due.due("list(0, 2) again", x.list(0, 2), 1);
        Due.due("0 again", x.get(0, 0), 0);
        Due.due("shorter", x.get(0, 2), Due.NO);
        x.list(0, 3);
        Due.due("0 where 8 was", x.get(0, 2), 0);
    }

    private static void put() {
        WordRace x = new WordRace();
        Due.due("put(-1, 0, 1)", x.put(-1, 0, 1), -1);
        Due.due("put(4, 0, 1)", x.put(4, 0, 1), -1);
        Due.due("put(2, 0, 1) of nothing", x.put(2, 0, 1), -11);
        Due.due("put(2, -1, 1) of nothing", x.put(2, -1, 1), -11);
        x.list(2, 0);
        Due.due("put(2, 0, 1) of none", x.put(2, 0, 1), -13);
        x.list(2, 12);
        Due.due("put(2, 11, most)", x.put(2, 11, Integer.MAX_VALUE), 1);
        Due.due("put(2, 0, least)", x.put(2, 0, Integer.MIN_VALUE), 1);
        Due.due("put(2, 12, 1)", x.put(2, 12, 1), -13);
        Due.due("put(2, -1, 1)", x.put(2, -1, 1), -13);
        Due.due("get(2, 11)", x.get(2, 11), Integer.MAX_VALUE);
        Due.due("get(2, 0)", x.get(2, 0), Integer.MIN_VALUE);
    }

    private static void get() {
        WordRace x = new WordRace();
        Due.due("get(0, 0) of nothing", x.get(0, 0), Due.NO);
        Due.due("get(-1, 0)", x.get(-1, 0), Due.NO);
        Due.due("get(4, 0)", x.get(4, 0), Due.NO);
        for (int list = 0; list < 4; list++) {
            x.list(list, 3);
            x.put(list, 2, -7 - list);
        }
        for (int list = 0; list < 4; list++) Due.due("get(" + list + ", 2)", x.get(list, 2), -7 - list);
        Due.due("get(0, 3)", x.get(0, 3), Due.NO);
        Due.due("get(0, -1)", x.get(0, -1), Due.NO);
    }

    /** All that an image holds, changed from what a new object has. */
    private static WordRace changed() {
        WordRace x = Due.with(3, "abc;ca");
        Due.cast(x, "abca");
        x.player(3, 1);
        x.plan(1, 2);
        x.plan(0, 3);
        return x;
    }

    private static void isChanged(WordRace x) {
        int[] counts = {2, 4, 1, 3};
        for (int i = 0; i < counts.length; i++) Due.due("count(" + i + ") as imaged", x.count(i), counts[i]);
        Due.due("count(6) as imaged", x.count(6), 2);
        Due.due("word 0 as imaged", x.of(0, 0), 123);
        Due.due("word 1 as imaged", x.of(1, 0), 31);
        int[] strip = {1, 2, 3, 1, -1};
        for (int i = 0; i < strip.length; i++) Due.due("strip as imaged", x.strip(i), strip[i]);
        Due.due("kind as imaged", x.playerOf(0, 0), 3);
        Due.due("owned as imaged", x.playerOf(0, 1), 1);
        Due.due("behind as imaged", x.behind(0), 3);
        Due.due("who behind as imaged", x.behind(1), 0);
    }

    private static void spoil(WordRace x) {
        x.wipe();
        x.becomes(0, 1);
        x.becomes(1, 22);
        x.sides(2);
        Due.tell(x, "ab;ba;bb");
        Due.cast(x, "babab");
        for (int i = 0; i < 3; i++) x.player(i, 2);
        x.plan(-1, 0);
        for (int i = 0; i < 5; i++) x.plan(2, 2);
    }

    private static void image() {
        WordRace x = changed();
        Due.due("image()", x.image(), 2);
        isChanged(x);
        for (int i = 0; i < 3; i++) {
            spoil(x);
            Due.due("undo() " + i, x.undo(), 2);
            isChanged(x);
        }
        spoil(x);
        Due.due("another image()", x.image(), 5);
        x.sides(3);
        x.wipe();
        Due.due("undo() to the other", x.undo(), 5);
        Due.due("sides of the other", x.count(3), 2);
        Due.due("strip of the other", x.count(1), 5);
        Due.due("players of the other", x.count(2), 4);
        WordRace y = new WordRace();
        Due.due("image() of nothing", y.image(), 0);
        spoil(y);
        Due.due("undo() to nothing", y.undo(), 0);
        int[] counts = {0, 0, 0, 2};
        for (int i = 0; i < counts.length; i++) Due.due("count(" + i + ") of nothing", y.count(i), counts[i]);
    }

    private static void imageLeavesTheRest() {
        WordRace x = changed();
        x.list(0, 2);
        x.write(0);
        Due.feed(x, "ab");
        x.image();
        x.list(0, 3);
        x.put(0, 2, 9);
        x.list(1, 1);
        x.write(1);
        Due.feed(x, "b");
        x.undo();
        Due.due("list 0 is not of the image", x.get(0, 2), 9);
        Due.due("list 1 is not of the image", x.get(1, 0), 0);
        Due.text("the paper is not of the image", Due.paper(x), "ca");
        Due.due("the tape is not of the image", x.count(4), 3);
        Due.due("words()", x.words(), 3);
        Due.due("the word", x.of(2, 0), 122);
    }

    private static void undo() {
        WordRace x = changed();
        Due.due("undo() without an image", x.undo(), -3);
        isChanged(x);
    }

    private static void count() {
        WordRace x = changed();
        x.write(-1);
        Due.feed(x, "ab;");
        int[] due = {2, 4, 1, 3, 3, 4, 2};
        for (int i = 0; i < due.length; i++) Due.due("count(" + i + ")", x.count(i), due[i]);
        Due.due("count(7)", x.count(7), -2);
        Due.due("count(-1)", x.count(-1), -2);
        Due.due("count(least)", x.count(Integer.MIN_VALUE), -2);
    }
}
