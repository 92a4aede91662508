import java.lang.reflect.Constructor;
import java.lang.reflect.Field;
import java.lang.reflect.Method;
import java.lang.reflect.Modifier;
import java.nio.file.Files;
import java.nio.file.Path;
import java.util.ArrayList;
import java.util.Collections;
import java.util.List;
import java.util.regex.Matcher;
import java.util.regex.Pattern;

/** The face of the document, and those rules of LANGUAGE.md that can be seen from outside or by words. */
public final class LanguageTest {
    private static final String[] FACE = {
        "int sides(int)", "int feed(int)", "int words()", "int becomes(int,int)", "int of(int,int)",
        "int overlaps(int,int)", "int number(int,int)", "int isIn(int,int)", "long chance(int,int,int)",
        "long answered(int,int)", "int trail(int,int)", "int ring(int)", "long field(int,int,int)",
        "long mean(int,int)", "int within(int,int,int)", "int cast(int)", "int casts(int,int)", "int wipe()",
        "int strip(int)", "long ends(int)", "int seen(int,int)", "int who()", "int were(int,int)",
        "int player(int,int)", "int playerOf(int,int)", "int pick(int,int,int)", "long match(int,int,int)",
        "int duel(int,int,int,int)", "long odds(int,int,int,int,int)", "int plan(int,int)", "int behind(int)",
        "int write(int)", "int paper(int)", "int judge(int)", "int list(int,int)", "int put(int,int,int)",
        "long get(int,int)", "int image()", "int undo()", "int count(int)"};
    private static final String[] CONSTANTS = {
        "int NONE", "int BAD", "int STATE", "int FULL", "int NOT", "long NO"};
    private static final String[] BANNED = {
        "throw", "throws", "try", "catch", "finally", "synchronized", "assert", "var", "protected", "package",
        "hashCode", "Random", "System.currentTimeMillis", "System.nanoTime", "Thread", "Exact", "String", "instanceof"};

    public static void main(String[] args) throws Exception {
        face();
        nested();
        String code = withoutComments(Files.readString(Path.of("src/main/java/WordRace.java")));
        words(code);
        methods(code);
        made(code);
        Due.due("NONE", WordRace.NONE, -1);
        Due.due("BAD", WordRace.BAD, -2);
        Due.due("STATE", WordRace.STATE, -3);
        Due.due("FULL", WordRace.FULL, -4);
        Due.due("NOT", WordRace.NOT, -5);
        Due.due("NO", WordRace.NO, Long.MIN_VALUE);
        Due.end();
    }

    private static String sorted(List<String> rows) {
        Collections.sort(rows);
        return String.join("\n", rows);
    }

    private static String shown(Method m) {
        StringBuilder text = new StringBuilder(m.getReturnType().getSimpleName() + " " + m.getName() + "(");
        for (int i = 0; i < m.getParameterCount(); i++) {
            text.append(i == 0 ? "" : ",").append(m.getParameterTypes()[i].getSimpleName());
        }
        return text.append(')').toString();
    }

    private static void face() {
        List<String> methods = new ArrayList<>();
        List<String> constants = new ArrayList<>();
        for (Method m : WordRace.class.getDeclaredMethods()) {
            if (!Modifier.isPrivate(m.getModifiers())) methods.add(shown(m));
        }
        for (Field f : WordRace.class.getDeclaredFields()) {
            if (!Modifier.isPrivate(f.getModifiers())) constants.add(f.getType().getSimpleName() + " " + f.getName());
            else if (Modifier.isStatic(f.getModifiers())) Due.due(f + " is final", f.getModifiers() & Modifier.FINAL, Modifier.FINAL);
        }
        Due.text("methods", sorted(methods), sorted(new ArrayList<>(List.of(FACE))));
        Due.text("constants", sorted(constants), sorted(new ArrayList<>(List.of(CONSTANTS))));
        Constructor<?>[] made = WordRace.class.getDeclaredConstructors();
        Due.due("constructors", made.length, 1);
        Due.due("the constructor is public", made[0].getModifiers(), Modifier.PUBLIC);
        Due.due("public and final", WordRace.class.getModifiers(), Modifier.PUBLIC | Modifier.FINAL);
    }

    private static void nested() {
        Class<?>[] nested = WordRace.class.getDeclaredClasses();
        Due.due("at most twelve classes", nested.length + 1 <= 12 ? 1 : 0, 1);
        for (Class<?> c : nested) {
            Due.due(c + " is static", c.getModifiers() & Modifier.STATIC, Modifier.STATIC);
            for (Method m : c.getDeclaredMethods()) {
                Due.due(c + " " + m.getName() + " bears no public name", isPublicName(m.getName()) ? 1 : 0, 0);
                Due.due(m + " has few parameters", m.getParameterCount() <= 7 ? 1 : 0, 1);
            }
        }
        for (Method m : WordRace.class.getDeclaredMethods()) {
            if (!Modifier.isPrivate(m.getModifiers())) continue;
            Due.due(m.getName() + " bears no public name", isPublicName(m.getName()) ? 1 : 0, 0);
        }
    }

    private static boolean isPublicName(String name) {
        for (String row : FACE) if (row.contains(" " + name + "(")) return true;
        return false;
    }

    private static String withoutComments(String code) {
        return code.replaceAll("(?s)/\\*.*?\\*/", " ").replaceAll("//[^\n]*", " ");
    }

    private static void words(String code) {
        for (String word : BANNED) {
            Matcher m = Pattern.compile("\\b" + Pattern.quote(word) + "\\b").matcher(code);
            Due.due("the code has '" + word + "'", m.find() ? 1 : 0, 0);
        }
        Due.due("lambdas", code.contains("->") ? 1 : 0, 0);
        Due.due("method references", code.contains("::") ? 1 : 0, 0);
        Due.due("static blocks", Pattern.compile("static\\s*\\{").matcher(code).find() ? 1 : 0, 0);
        Due.text("imports", String.join(" ", code.lines().filter(LanguageTest::isImport).toList()), "import java.util.Arrays;");
    }

    /** All that is made is made for fields: no call makes an object. */
    private static void made(String code) {
        for (String line : code.split("\n")) {
            if (!line.matches(".*\\bnew\\b.*")) continue;
            Due.due("made for a field:" + line, line.matches("\\s+(private )?final [A-Za-z\\[\\]]+ \\w+ = new .*;") ? 1 : 0, 1);
        }
    }

    private static boolean isImport(String line) {
        return line.startsWith("import");
    }

    /** Methods stay short: the lines from a head to the brace that closes at its depth. */
    private static void methods(String code) {
        String[] lines = code.split("\n");
        for (int i = 0; i < lines.length; i++) {
            if (!lines[i].matches("\\s+[a-z][A-Za-z\\[\\] ]*\\([^;]*\\) \\{") || lines[i].matches("\\s+(if|for|while|switch) .*")) continue;
            String close = lines[i].replaceAll("\\S.*", "") + "}";
            int end = i;
            while (end < lines.length && !lines[end].equals(close)) end++;
            Due.due("lines of" + lines[i] + " are few", end - i < 60 ? 1 : 0, 1);
        }
    }
}
