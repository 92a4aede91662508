import java.math.BigInteger;
import java.util.ArrayList;
import java.util.List;

/**
 * The document written a second time, by other means (texts, whole rows of throws, fractions of any size), so that
 * long drawn runs of calls can be judged. It has the face of WordRace.
 */
final class Model {
    private static final long NO = Long.MIN_VALUE;

    private int sides = 2;
    private List<String> words = new ArrayList<>();
    private String strip = "";
    private List<int[]> players = new ArrayList<>();
    private List<int[]> rows = new ArrayList<>();
    private String tape = "";
    private String paper = "";
    private final int[][] lists = new int[4][];
    private Model image;

    // ---- helpers

    private static int told(String word) {
        int number = 0;
        for (char c : word.toCharArray()) number = number * 10 + c - 'a' + 1;
        return number;
    }

    private boolean isWord(int word) {
        return word >= 0 && word < words.size();
    }

    private List<String> allOf(int length) {
        List<String> all = new ArrayList<>();
        all.add("");
        for (int i = 0; i < length; i++) {
            List<String> longer = new ArrayList<>();
            for (String s : all) for (int k = 0; k < sides; k++) longer.add(s + (char) ('a' + k));
            all = longer;
        }
        return all;
    }

    private static int overlapsOf(String one, String other) {
        int bits = 0;
        for (int k = 1; k <= one.length() && k <= other.length(); k++) {
            if (one.endsWith(other.substring(0, k))) bits += 1 << (k - 1);
        }
        return bits;
    }

    private int numberOf(String one, String other) {
        int sum = 0;
        for (int k = 1; k <= 5; k++) {
            if ((overlapsOf(one, other) & 1 << (k - 1)) != 0) sum += (int) Math.round(Math.pow(sides, k));
        }
        return sum;
    }

    private static boolean meet(String one, String other) {
        return one.contains(other) || other.contains(one);
    }

    /** Above and below the line; null, where there is none. */
    private BigInteger[] chanceOf(String one, String other) {
        if (meet(one, other)) return null;
        int x = numberOf(other, other) - numberOf(other, one);
        int y = numberOf(one, one) - numberOf(one, other);
        return new BigInteger[] {BigInteger.valueOf(x), BigInteger.valueOf(x + y)};
    }

    private static int compare(BigInteger[] one, BigInteger[] other) {
        return one[0].multiply(other[1]).compareTo(other[0].multiply(one[1]));
    }

    private boolean beats(String one, String other) {
        BigInteger[] chance = chanceOf(one, other);
        return chance != null && compare(chance, new BigInteger[] {BigInteger.ONE, BigInteger.TWO}) > 0;
    }

    private static long partOf(BigInteger[] fraction, int part) {
        if (fraction == null) return NO;
        BigInteger divisor = fraction[0].gcd(fraction[1]);
        if (fraction[1].signum() < 0) divisor = divisor.negate();
        return fraction[part].divide(divisor).longValueExact();
    }

    private String best(String word) {
        String best = null;
        for (String s : allOf(word.length())) {
            if (s.equals(word)) continue;
            if (best == null || compare(chanceOf(s, word), chanceOf(best, word)) > 0) best = s;
        }
        return best;
    }

    private static String turned(String word) {
        return new StringBuilder(word).reverse().toString();
    }

    private String oneOn(String letters) {
        StringBuilder made = new StringBuilder();
        for (char c : letters.toCharArray()) made.append((char) ('a' + (c - 'a' + 1) % sides));
        return made.toString();
    }

    // ---- words

    int sides(int n) {
        if (n != 2 && n != 3) return -2;
        if (n == 2 && (strip + String.join("", words)).contains("c")) return -3;
        int before = sides;
        sides = n;
        return before;
    }

    int feed(int letter) {
        if (letter < 1 || letter > 127) return -2;
        if (tape.length() == 60) return -4;
        tape += (char) letter;
        return tape.length();
    }

    /** Whether some text that tells words begins so. */
    private boolean begins(String text) {
        String letters = sides == 3 ? "abc" : "ab";
        if (text.startsWith(";") || text.contains(";;")) return false;
        for (String clause : text.split(";", -1)) {
            if (!clause.matches("([" + letters + "][2-5]?)*") || expand(clause).length() > 5) return false;
        }
        return true;
    }

    private static String expand(String clause) {
        StringBuilder made = new StringBuilder();
        for (char c : clause.toCharArray()) {
            if (c >= 'a') made.append(c);
            else for (int i = '1'; i < c; i++) made.append(made.charAt(made.length() - 1));
        }
        return made.toString();
    }

    int words() {
        String text = tape;
        tape = "";
        for (int i = 0; i < text.length(); i++) if (!begins(text.substring(0, i + 1))) return -100 - i;
        if (text.isEmpty() || text.endsWith(";")) return -100 - text.length();
        String[] clauses = text.split(";");
        if (words.size() + clauses.length > 6) return -4;
        for (String clause : clauses) words.add(expand(clause));
        return words.size();
    }

    int becomes(int word, int number) {
        if (!isWord(word)) return -1;
        String digits = Integer.toString(number);
        if (!digits.matches(sides == 3 ? "[123]{1,5}" : "[12]{1,5}")) return -2;
        int before = told(words.get(word));
        words.set(word, digits.replace('1', 'a').replace('2', 'b').replace('3', 'c'));
        return before;
    }

    int of(int word, int what) {
        if (!isWord(word) || what < 0 || what > 3) return -1;
        String s = words.get(word);
        if (what == 0) return told(s);
        if (what == 1) return s.length();
        return what == 2 ? numberOf(s, s) : told(best(s));
    }

    int overlaps(int one, int other) {
        return isWord(one) && isWord(other) ? overlapsOf(words.get(one), words.get(other)) : -1;
    }

    int number(int one, int other) {
        return isWord(one) && isWord(other) ? numberOf(words.get(one), words.get(other)) : -1;
    }

    int isIn(int one, int other) {
        if (!isWord(one) || !isWord(other)) return -1;
        return words.get(other).contains(words.get(one)) ? 1 : 0;
    }

    // ---- chances

    long chance(int one, int other, int part) {
        if (!isWord(one) || !isWord(other) || part < 0 || part > 1) return NO;
        return partOf(chanceOf(words.get(one), words.get(other)), part);
    }

    long answered(int word, int part) {
        if (!isWord(word) || part < 0 || part > 1) return NO;
        return partOf(chanceOf(best(words.get(word)), words.get(word)), part);
    }

    int trail(int word, int what) {
        if (!isWord(word) || what < 0 || what > 1) return -1;
        List<String> trail = new ArrayList<>();
        String s = words.get(word);
        for (; !trail.contains(s); s = best(s)) trail.add(s);
        return what == 0 ? trail.size() : trail.size() - trail.indexOf(s);
    }

    int ring(int k) {
        for (int size = 3; size <= words.size(); size++) {
            List<Integer> ring = ringOf(new ArrayList<>(), size);
            if (ring == null) continue;
            if (k == -1) return size;
            return k >= 0 && k < size ? ring.get(k) : -5;
        }
        return -5;
    }

    /** The first of all rows of unlike words that is a ring. */
    private List<Integer> ringOf(List<Integer> row, int size) {
        if (row.size() == size) {
            for (int i = 0; i < size; i++) {
                if (!beats(words.get(row.get(i)), words.get(row.get((i + 1) % size)))) return null;
            }
            return row;
        }
        for (int w = 0; w < words.size(); w++) {
            if (row.contains(w)) continue;
            List<Integer> longer = new ArrayList<>(row);
            longer.add(w);
            List<Integer> ring = ringOf(longer, size);
            if (ring != null) return ring;
        }
        return null;
    }

    private List<String> fieldOf(int set) {
        List<String> field = new ArrayList<>();
        for (int i = 0; i < words.size(); i++) if ((set & 1 << i) != 0) field.add(words.get(i));
        return field;
    }

    private boolean isSet(int set) {
        return set >= 0 && set < 1 << words.size();
    }

    private static boolean anyMeet(List<String> field) {
        for (int i = 0; i < field.size(); i++) {
            for (int j = 0; j < i; j++) if (meet(field.get(i), field.get(j))) return true;
        }
        return false;
    }

    long field(int set, int word, int part) {
        if (!isSet(set) || !isWord(word) || (set & 1 << word) == 0 || part < 0 || part > 1) return NO;
        List<String> field = fieldOf(set);
        if (field.size() < 2 || field.size() > 4 || anyMeet(field)) return NO;
        return partOf(solve(field)[Integer.bitCount(set & (1 << word) - 1)], part);
    }

    long mean(int set, int part) {
        if (!isSet(set) || part < 0 || part > 1) return NO;
        List<String> field = fieldOf(set);
        if (field.size() < 2 || field.size() > 4 || anyMeet(field)) return NO;
        return partOf(solve(field)[field.size()], part);
    }

    /** The chances and, last, the mean: the equations of the document, solved by Cramer's rule. */
    private BigInteger[][] solve(List<String> field) {
        int n = field.size();
        BigInteger[][] rows = new BigInteger[n + 1][n + 1];
        for (int i = 0; i < n; i++) {
            for (int j = 0; j < n; j++) rows[i][j] = BigInteger.valueOf(numberOf(field.get(j), field.get(i)));
            rows[i][n] = BigInteger.ONE.negate();
            rows[n][i] = BigInteger.ONE;
        }
        rows[n][n] = BigInteger.ZERO;
        BigInteger whole = determinant(rows);
        BigInteger[][] answer = new BigInteger[n + 1][];
        for (int j = 0; j <= n; j++) {
            BigInteger[][] changed = new BigInteger[n + 1][];
            for (int i = 0; i <= n; i++) {
                changed[i] = rows[i].clone();
                changed[i][j] = i == n ? BigInteger.ONE : BigInteger.ZERO;
            }
            answer[j] = new BigInteger[] {determinant(changed), whole};
        }
        return answer;
    }

    private static BigInteger determinant(BigInteger[][] rows) {
        int n = rows.length;
        if (n == 1) return rows[0][0];
        BigInteger sum = BigInteger.ZERO;
        for (int j = 0; j < n; j++) {
            BigInteger[][] smaller = new BigInteger[n - 1][n - 1];
            for (int i = 1; i < n; i++) {
                for (int c = 0; c < n - 1; c++) smaller[i - 1][c] = rows[i][c < j ? c : c + 1];
            }
            BigInteger term = rows[0][j].multiply(determinant(smaller));
            sum = j % 2 == 0 ? sum.add(term) : sum.subtract(term);
        }
        return sum;
    }

    int within(int set, int word, int n) {
        if (!isSet(set) || !isWord(word) || (set & 1 << word) == 0) return -1;
        List<String> field = fieldOf(set);
        if (field.isEmpty() || field.size() > 4 || n < 0 || n > 12) return -2;
        if (anyMeet(field)) return -3;
        return rowsFrom("", field, words.get(word), n);
    }

    /** Every row of n throws is thrown, letter by letter. */
    private int rowsFrom(String row, List<String> field, String word, int n) {
        for (String s : field) {
            if (row.endsWith(s)) return s.equals(word) ? (int) Math.round(Math.pow(sides, n - row.length())) : 0;
        }
        if (row.length() == n) return 0;
        int sum = 0;
        for (int k = 0; k < sides; k++) sum += rowsFrom(row + (char) ('a' + k), field, word, n);
        return sum;
    }

    // ---- the strip

    int cast(int letter) {
        if (letter < 1 || letter > sides) return -2;
        if (strip.length() == 40) return -4;
        strip += (char) ('a' + letter - 1);
        return strip.length();
    }

    private String draws(int n, int seed) {
        StringBuilder made = new StringBuilder();
        int z = seed;
        for (int i = 0; i < n; i++) {
            z = z * 1103515245 + 12345;
            made.append((char) ('a' + (z >>> 16) % sides));
        }
        return made.toString();
    }

    int casts(int n, int seed) {
        if (n < 1 || n > 40) return -2;
        strip += draws(n, seed);
        if (strip.length() > 40) strip = strip.substring(0, 40);
        return strip.length();
    }

    int wipe() {
        int before = strip.length();
        strip = "";
        return before;
    }

    int strip(int place) {
        return place >= 0 && place < strip.length() ? strip.charAt(place) - 'a' + 1 : -1;
    }

    long ends(int word) {
        if (!isWord(word)) return NO;
        long bits = 0;
        for (int p = 0; p < strip.length(); p++) {
            if (strip.substring(0, p + 1).endsWith(words.get(word))) bits |= 1L << p;
        }
        return bits;
    }

    private static int firstOf(String row, String word) {
        int start = row.indexOf(word);
        return start < 0 ? -5 : start + word.length() - 1;
    }

    int seen(int word, int what) {
        if (!isWord(word) || what < 0 || what > 2) return -1;
        String s = words.get(word);
        if (what == 0) return firstOf(strip, s);
        if (what == 1) return Long.bitCount(ends(word));
        int matched = 0;
        for (int k = 1; k <= s.length(); k++) if (strip.endsWith(s.substring(0, k))) matched = k;
        return matched;
    }

    private int whoOn(String row) {
        for (int p = 0; p < row.length(); p++) {
            for (int length = 5; length > 0; length--) {
                for (int w = 0; w < words.size(); w++) {
                    if (words.get(w).length() == length && row.substring(0, p + 1).endsWith(words.get(w))) return w;
                }
            }
        }
        return -5;
    }

    int who() {
        return whoOn(strip);
    }

    int were(int place, int word) {
        if (place < 0 || place >= strip.length() || !isWord(word)) return -1;
        int bits = 0;
        for (int k = 0; k < sides; k++) {
            String row = strip.substring(0, place) + (char) ('a' + k) + strip.substring(place + 1);
            if (whoOn(row) == word) bits += 1 << k;
        }
        return bits;
    }

    // ---- players, duels

    int player(int kind, int word) {
        if (kind < 0 || kind > 5 || !isWord(word)) return -1;
        if (players.size() == 4) return -4;
        players.add(new int[] {kind, word});
        return players.size() - 1;
    }

    private boolean isPlayer(int player) {
        return player >= 0 && player < players.size();
    }

    private String picks(int kind, String own, String o) {
        if (kind == 1) return turned(picks(0, own, o));
        if (kind == 2) return oneOn(o.length() == 1 ? o : o.substring(1, 2)) + o.substring(0, o.length() - 1);
        if (kind == 3) return oneOn(picks(1, own, o));
        if (kind == 4) return best(o);
        if (kind == 5) {
            String shifted = picks(3, own, o);
            return shifted.charAt(0) + shifted.substring(0, shifted.length() - 1);
        }
        return own;
    }

    private String[] picksOf(int one, int other) {
        String own = words.get(players.get(one)[1]);
        String first = picks(players.get(one)[0], own, own);
        return new String[] {first, picks(players.get(other)[0], words.get(players.get(other)[1]), first)};
    }

    int playerOf(int player, int what) {
        if (!isPlayer(player) || what < 0 || what > 2) return -1;
        if (what < 2) return players.get(player)[what];
        int wins = 0;
        for (int other = 0; other < players.size(); other++) {
            if (other == player) continue;
            String[] picks = picksOf(player, other);
            if (beats(picks[0], picks[1])) wins++;
        }
        return wins;
    }

    int pick(int one, int other, int what) {
        if (!isPlayer(one) || !isPlayer(other) || one == other || what < 0 || what > 1) return -1;
        return told(picksOf(one, other)[what]);
    }

    long match(int one, int other, int part) {
        if (!isPlayer(one) || !isPlayer(other) || one == other || part < 0 || part > 1) return NO;
        String[] picks = picksOf(one, other);
        return partOf(chanceOf(picks[0], picks[1]), part);
    }

    private int[] duelOf(String one, String other, int seed) {
        String row = draws(60, seed);
        int first = firstOf(row, one);
        int second = firstOf(row, other);
        if (first < 0 && second < 0) return new int[] {-5, 60};
        if (second < 0 || first >= 0 && first < second) return new int[] {0, first + 1};
        return new int[] {1, second + 1};
    }

    int duel(int one, int other, int seed, int what) {
        if (!isWord(one) || !isWord(other) || one == other || what < 0 || what > 1) return -1;
        if (meet(words.get(one), words.get(other))) return -3;
        return duelOf(words.get(one), words.get(other), seed)[what];
    }

    long odds(int one, int other, int seed, int m, int part) {
        if (!isWord(one) || !isWord(other) || one == other || m < 1 || m > 30 || part < 0 || part > 1) return NO;
        if (meet(words.get(one), words.get(other))) return NO;
        int won = 0;
        for (int i = 0; i < m; i++) if (duelOf(words.get(one), words.get(other), seed + i)[0] == 0) won++;
        return partOf(new BigInteger[] {BigInteger.valueOf(won), BigInteger.valueOf(m)}, part);
    }

    // ---- plans, written

    int plan(int what, int v) {
        if (what == -1) {
            rows.clear();
            return 0;
        }
        if (what < 0 || what > 2) return -1;
        int most = what == 0 ? 3 : what == 1 ? 9 : 2;
        if (v < 1 || v > most) return -2;
        if (rows.size() == 8) return -4;
        rows.add(new int[] {what, v});
        return rows.size();
    }

    int behind(int what) {
        if (what != 0 && what != 1 && (what < 10 || what > 15 || !isWord(what - 10))) return -1;
        String row = strip;
        for (int[] r : rows) {
            if (r[0] == 0 && r[1] <= sides && row.length() < 40) row += (char) ('a' + r[1] - 1);
            if (r[0] == 1) row = r[1] >= row.length() ? "" : row.substring(0, row.length() - r[1]);
            if (r[0] == 2) row = r[1] == 1 ? oneOn(row) : oneOn(oneOn(row));
        }
        if (what == 0) return row.length();
        return what == 1 ? whoOn(row) : firstOf(row, words.get(what - 10));
    }

    int write(int word) {
        if (word != -1 && !isWord(word)) return -1;
        paper = word == -1 ? strip : words.get(word);
        return paper.length();
    }

    int paper(int i) {
        return i >= 0 && i < paper.length() ? paper.charAt(i) : -1;
    }

    // ---- lists, the image

    int judge(int list) {
        if (list < 0 || list > 3) return -1;
        if (lists[list] == null) return -11;
        for (int i = 0; i < lists[list].length; i++) {
            if (lists[list][i] != (isWord(i) ? firstOf(strip, words.get(i)) : -5)) return i;
        }
        return -5;
    }

    int list(int list, int n) {
        if (list < 0 || list > 3) return -1;
        if (n > 12) return -2;
        if (n < 0) return -14;
        lists[list] = new int[n];
        return 1;
    }

    int put(int list, int i, int v) {
        if (list < 0 || list > 3) return -1;
        if (lists[list] == null) return -11;
        if (i < 0 || i >= lists[list].length) return -13;
        lists[list][i] = v;
        return 1;
    }

    long get(int list, int i) {
        if (list < 0 || list > 3 || lists[list] == null) return NO;
        return i >= 0 && i < lists[list].length ? lists[list][i] : NO;
    }

    private static void copy(Model from, Model to) {
        to.sides = from.sides;
        to.words = new ArrayList<>(from.words);
        to.strip = from.strip;
        to.players = new ArrayList<>(from.players);
        to.rows = new ArrayList<>(from.rows);
    }

    int image() {
        image = new Model();
        copy(this, image);
        return words.size();
    }

    int undo() {
        if (image == null) return -3;
        copy(image, this);
        return words.size();
    }

    int count(int what) {
        int[] counts = {words.size(), strip.length(), players.size(), sides, tape.length(), paper.length(), rows.size()};
        return what >= 0 && what < counts.length ? counts[what] : -2;
    }
}
