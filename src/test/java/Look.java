/**
 * A look at all that an object holds, told as a text, so that two objects can be held against each other. A look asks
 * and changes nothing; a look through also uses the object up: it reads the tape, goes back to the image and follows
 * the plan on other strips.
 */
final class Look {
    private Look() {
    }

    /** Some 170 calls at most. */
    static String at(WordRace x) {
        return board(x) + rest(x);
    }

    /** Some 400 calls at most. */
    static String through(WordRace x) {
        StringBuilder text = new StringBuilder(at(x));
        text.append("\nthe tape tells ").append(x.words()).append(" numbers");
        int words = x.count(0);
        for (int w = 0; w < words; w++) text.append(' ').append(x.of(w, 0));
        follow(x, text);
        text.append("\nthe image: ").append(x.undo()).append('\n').append(board(x));
        follow(x, text);
        return text.toString();
    }

    /** What an image holds. */
    static String board(WordRace x) {
        StringBuilder text = new StringBuilder("sides ").append(x.count(3)).append(" words");
        int words = x.count(0);
        for (int w = 0; w < words; w++) text.append(' ').append(x.of(w, 0));
        text.append(" strip ");
        int letters = x.count(1);
        for (int i = 0; i < letters; i++) text.append(x.strip(i));
        int players = x.count(2);
        for (int p = 0; p < players; p++) {
            text.append(" player ").append(x.playerOf(p, 0)).append(' ').append(x.playerOf(p, 1));
        }
        return text.append(" rows ").append(x.count(6)).append(" behind ").append(x.behind(0)).toString();
    }

    /** What no image holds. */
    private static String rest(WordRace x) {
        StringBuilder text = new StringBuilder("\ntape ").append(x.count(4)).append(" paper ");
        int bytes = x.count(5);
        for (int i = 0; i < bytes; i++) text.append((char) x.paper(i));
        for (int list = 0; list < 4; list++) {
            text.append("\nlist ").append(x.judge(list) == -11 ? "of nothing" : "of");
            long value = x.get(list, 0);
            for (int i = 1; value != Due.NO; i++) {
                text.append(' ').append(value);
                value = x.get(list, i);
            }
        }
        return text.toString();
    }

    /** The plan, by what it makes of three strips. */
    private static void follow(WordRace x, StringBuilder text) {
        int words = x.count(0);
        for (int strip = 0; strip < 3; strip++) {
            x.wipe();
            if (strip > 0) x.casts(strip * 20, 7);
            text.append("\nplan ").append(x.behind(0)).append(' ').append(x.behind(1));
            for (int w = 0; w < words; w++) text.append(' ').append(x.behind(10 + w));
        }
    }
}
