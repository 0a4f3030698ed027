import java.io.IOException;
import java.lang.reflect.Constructor;
import java.lang.reflect.Field;
import java.lang.reflect.Method;
import java.lang.reflect.Modifier;
import java.nio.file.Files;
import java.nio.file.Path;
import java.util.ArrayList;
import java.util.List;
import java.util.Set;
import java.util.TreeSet;
import java.util.regex.Matcher;
import java.util.regex.Pattern;

/** The face of the document, and those rules of LANGUAGE.md that can be seen from outside. */
public final class LanguageTest {
    private static final Path SOURCE = Path.of("src/main/java/LaceLines.java");
    private static final List<String> FACE = List.of(
        "feed/1", "town/0", "fault/0", "told/1", "maker/2", "crossing/2", "ring/1", "hangUp/1", "minute/1",
        "wrongNumber/2", "drift/1", "undo/1", "soonest/1", "lines/1", "chain/1", "window/2", "gone/1", "share/1",
        "engaged/2", "gossip/2", "lies/2", "wentWrong/1", "sure/0", "look/0", "strange/1", "ears/1", "write/2",
        "judge/0", "tear/0", "seed/1", "keep/1", "goBack/1");

    public static void main(String[] args) throws IOException {
        face();
        members();
        words();
        lengths();
        objects();
        Due.end();
    }

    private static void check(String what, boolean holds) {
        Due.is(what, holds ? 1 : 0, 1);
    }

    private static void face() {
        check("public final class", Modifier.isPublic(LaceLines.class.getModifiers())
            && Modifier.isFinal(LaceLines.class.getModifiers()));
        Set<String> open = new TreeSet<>();
        for (Method m : LaceLines.class.getDeclaredMethods()) {
            if (Modifier.isPublic(m.getModifiers())) {
                open.add(m.getName() + "/" + m.getParameterCount());
                check(m.getName() + " is of ints", m.getReturnType() == int.class);
                for (Class<?> type : m.getParameterTypes()) {
                    check(m.getName() + " takes ints", type == int.class);
                }
            } else {
                check(m.getName() + " is private", Modifier.isPrivate(m.getModifiers()));
            }
        }
        check("the face " + open, open.equals(new TreeSet<>(FACE)));
        Constructor<?>[] made = LaceLines.class.getDeclaredConstructors();
        check("one public constructor", made.length == 1 && made[0].getParameterCount() == 0
            && Modifier.isPublic(made[0].getModifiers()));
        Set<String> constants = new TreeSet<>();
        for (Field f : LaceLines.class.getDeclaredFields()) {
            if (Modifier.isPublic(f.getModifiers())) {
                constants.add(f.getName());
                check(f.getName() + " is a constant", Modifier.isStatic(f.getModifiers()) && Modifier.isFinal(f.getModifiers()));
            } else {
                check(f.getName() + " is private", Modifier.isPrivate(f.getModifiers()));
            }
        }
        check("constants " + constants, constants.equals(Set.of("NONE", "UNKNOWN", "OUTSIDE", "NOT", "FULL")));
        Due.is("NONE", LaceLines.NONE, -1);
        Due.is("UNKNOWN", LaceLines.UNKNOWN, -1000000001);
        Due.is("OUTSIDE", LaceLines.OUTSIDE, -1000000002);
        Due.is("NOT", LaceLines.NOT, -1000000003);
        Due.is("FULL", LaceLines.FULL, -1000000004);
    }

    private static void members() {
        Set<String> names = new TreeSet<>();
        for (String each : FACE) {
            names.add(each.substring(0, each.indexOf('/')));
        }
        List<Class<?>> all = new ArrayList<>(List.of(LaceLines.class.getDeclaredClasses()));
        check("some twelve classes at most", all.size() + 1 <= 12);
        for (Class<?> inside : all) {
            check(inside.getSimpleName() + " is static", Modifier.isStatic(inside.getModifiers()));
            for (Method m : inside.getDeclaredMethods()) {
                check(inside.getSimpleName() + "." + m.getName() + " has no name of the face", !names.contains(m.getName()));
            }
        }
        all.add(LaceLines.class);
        for (Class<?> each : all) {
            int fields = 0;
            for (Field f : each.getDeclaredFields()) {
                if (Modifier.isStatic(f.getModifiers())) {
                    check(f.getName() + " is final", Modifier.isFinal(f.getModifiers()));
                } else {
                    fields++;
                }
            }
            check(each.getSimpleName() + " has twenty fields at most", fields <= 20);
            for (Method m : each.getDeclaredMethods()) {
                check(m.getName() + " takes seven at most", m.getParameterCount() <= 7);
            }
        }
    }

    /** The source without its comments. */
    private static String code() throws IOException {
        return Files.readString(SOURCE).replaceAll("(?s)/\\*.*?\\*/", "").replaceAll("//[^\n]*", "");
    }

    private static void words() throws IOException {
        String code = code();
        for (String word : List.of("throw", "throws", "try", "catch", "finally", "synchronized", "assert", "package",
            "import", "->", "::", "Exact", "System\\.(?!arraycopy)", "Integer\\.(?!bitCount\\b)", "Math\\.(?!min\\b|max\\b)")) {
            String sought = Character.isLetter(word.charAt(0)) && !word.contains("(") && !word.equals("Exact")
                ? "\\b" + word + "\\b" : word;
            check("no " + word, !Pattern.compile(sought).matcher(code).find());
        }
        for (int i = 0; i < code.length(); i++) {
            if (code.charAt(i) > 127) {
                check("plain signs only", false);
            }
        }
    }

    private static void lengths() throws IOException {
        int begin = -1;
        List<String> lines = Files.readAllLines(SOURCE);
        for (int i = 0; i < lines.size(); i++) {
            String line = lines.get(i);
            if (line.matches("( {4}| {8})[A-Za-z].*\\) \\{")) {
                begin = i;
            } else if (line.matches("( {4}| {8})\\}") && begin >= 0) {
                check("short methods, line " + (begin + 1), i - begin < 60);
                begin = -1;
            }
        }
    }

    /** Nothing is made but in constructors: a run's room is that of its objects. */
    private static void objects() throws IOException {
        String where = "";
        for (String line : code().split("\n")) {
            Matcher head = Pattern.compile("^(?: {4}| {8})(.*\\)) \\{$").matcher(line);
            if (head.find()) {
                where = head.group(1).trim();
            }
            if (line.contains("new ")) {
                check("made in a constructor: " + line.trim(), where.matches("(public )?[A-Z][A-Za-z]*\\(.*"));
            }
        }
    }
}
