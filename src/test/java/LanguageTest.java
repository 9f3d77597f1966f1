import java.io.IOException;
import java.lang.reflect.Constructor;
import java.lang.reflect.Field;
import java.lang.reflect.Method;
import java.lang.reflect.Modifier;
import java.nio.file.Files;
import java.nio.file.Path;
import java.util.List;
import java.util.Set;
import java.util.TreeSet;
import java.util.regex.Matcher;
import java.util.regex.Pattern;

/** What of LANGUAGE.md can be seen in the source and in the class: by the numbers of its rules. */
public final class LanguageTest {
    private static final Set<String> FACE = Set.of("rain", "mood", "moods", "hinge", "feed", "end", "text", "fault",
            "keep", "opens", "sets", "knock", "later", "played", "undo", "traveller", "way", "guest", "clear", "earns",
            "even", "rounds", "seen", "kept", "image", "back", "about");
    private static final int MOST_LINES = 60;
    private static final int MOST_CLASSES = 12;
    private static final int MOST_FIELDS = 20;
    private static final int MOST_PARAMETERS = 7;

    private final Checks checks = new Checks();

    public static void main(String[] args) throws IOException {
        LanguageTest t = new LanguageTest();
        List<String> lines = Files.readAllLines(Path.of("src/main/java/RoadOfDoors.java"));
        StringBuilder code = new StringBuilder();
        for (String line : lines) {
            code.append(line.replaceFirst("//.*|/\\*\\*.*\\*/", "").replaceAll("\"[^\"]*\"", "\"\"")).append('\n');
        }
        t.face();
        t.classes();
        t.words(code.toString());
        t.lengths(lines);
        t.checks.end();
    }

    private void face() {
        Set<String> found = new TreeSet<>();
        for (Method m : RoadOfDoors.class.getDeclaredMethods()) {
            boolean isPrivate = Modifier.isPrivate(m.getModifiers());
            checks.due("rule 1: " + m.getName(), isPrivate, !FACE.contains(m.getName()));
            checks.due("rule 1: public " + m.getName(), isPrivate || Modifier.isPublic(m.getModifiers()), true);
            if (!isPrivate) {
                found.add(m.getName());
            }
        }
        checks.due("rule 1: the face", found.equals(new TreeSet<>(FACE)), true);
        for (Field f : RoadOfDoors.class.getDeclaredFields()) {
            checks.due("rule 1: field " + f.getName(), Modifier.isPublic(f.getModifiers()), f.getName().equals("NONE"));
            checks.due("rule 1: private " + f.getName(), Modifier.isPrivate(f.getModifiers()), !f.getName().equals("NONE"));
        }
        checks.due("rule 1: one constructor", RoadOfDoors.class.getDeclaredConstructors().length, 1);
        checks.due("rule 1: final", Modifier.isFinal(RoadOfDoors.class.getModifiers()), true);
    }

    private void classes() {
        Class<?>[] inside = RoadOfDoors.class.getDeclaredClasses();
        checks.due("rule 11: classes", inside.length < MOST_CLASSES, true);
        members(RoadOfDoors.class);
        for (Class<?> c : inside) {
            checks.due("rule 2: static " + c, Modifier.isStatic(c.getModifiers()), true);
            checks.due("rule 1: not public " + c, Modifier.isPublic(c.getModifiers()), false);
            members(c);
        }
    }

    private void members(Class<?> c) {
        int fields = 0;
        for (Field f : c.getDeclaredFields()) {
            boolean isStatic = Modifier.isStatic(f.getModifiers());
            checks.due("rule 5: " + f, isStatic && !Modifier.isFinal(f.getModifiers()), false);
            fields += isStatic ? 0 : 1;
        }
        checks.due("rule 11: fields of " + c, fields <= MOST_FIELDS, true);
        for (Method m : c.getDeclaredMethods()) {
            checks.due("rule 11: " + m, m.getParameterCount() <= MOST_PARAMETERS, true);
            checks.due("rule 1: " + m, c != RoadOfDoors.class && FACE.contains(m.getName()), false);
        }
        for (Constructor<?> made : c.getDeclaredConstructors()) {
            checks.due("rule 11: " + made, made.getParameterCount() <= MOST_PARAMETERS, true);
        }
    }

    private void words(String code) {
        absent(6, code, "\\b(throw|throws|try|catch|synchronized|assert)\\b");
        absent(2, code, "->|::|\\bextends\\b|\\bimplements\\b");
        absent(3, code, "\\b(var|Object|Map|Set|Random|Optional|Stream|double|float)\\b");
        absent(4, code, "import (?!java\\.util\\.Arrays;)|\\b(Integer|Long|Character)\\.|Exact\\b");
        absent(4, code, "\\bMath\\.(?!min\\b|max\\b)|\\bArrays\\.(?!fill\\b)|\\bSystem\\.(?!arraycopy\\b)");
        absent(5, code, "\\bstatic\\s*\\{");
        absent(6, code, "\\.(equals|hashCode|toString)\\(");
        absent(13, code, "\\b(nanoTime|currentTimeMillis|Thread|File|Socket|getenv)\\b");
        checks.due("rule 4: constants' signs", code.chars().allMatch(c -> c < 128), true);
        // Rows are made with the object alone: a "new" stands in a field or in a constructor of this file.
        int made = code.split("\\bnew ", -1).length - 1;
        int rows = code.split("= new ", -1).length - 1;
        checks.due("rule 12: new stands behind =", made, rows);
    }

    private void absent(int rule, String code, String pattern) {
        Matcher m = Pattern.compile(pattern).matcher(code);
        boolean is = m.find();
        checks.due("rule " + rule + ": " + (is ? m.group() : pattern), is, false);
    }

    private void lengths(List<String> lines) {
        int start = -1;
        for (int i = 0; i < lines.size(); i++) {
            String line = lines.get(i);
            checks.due("line " + (i + 1) + " is not too long", line.length() <= 125, true);
            if (line.matches(" {4}( {4})?[\\w<>\\[\\] ]+\\(.*\\) \\{")) {
                start = i;
            }
            if (line.matches(" {4}( {4})?\\}") && start >= 0) {
                checks.due("rule 11: method at line " + (start + 1), i - start < MOST_LINES, true);
                start = -1;
            }
        }
    }
}
