import java.io.IOException;
import java.lang.reflect.Constructor;
import java.lang.reflect.Field;
import java.lang.reflect.Method;
import java.lang.reflect.Modifier;
import java.nio.file.Files;
import java.nio.file.Path;
import java.util.List;
import java.util.Map;
import java.util.Set;
import java.util.TreeMap;
import java.util.TreeSet;
import java.util.regex.Matcher;
import java.util.regex.Pattern;

/** What of LANGUAGE.md can be seen in the source and in the class: by the numbers of its rules. */
public final class LanguageTest {
    private static final Set<String> FACE = Set.of("rain", "mood", "moods", "hinge", "feed", "end", "text", "fault",
            "keep", "opens", "sets", "knock", "later", "played", "undo", "traveller", "way", "guest", "clear", "earns",
            "even", "rounds", "seen", "kept", "image", "back", "about");
    private static final int MOST_LINES = 60;
    private static final int MOST_CLASSES = 12;
    private static final int MOST_FIELDS = 20;
    private static final int MOST_PARAMETERS = 7;
    private static final int MOST_DEEP = 8;

    private final Checks checks = new Checks();

    public static void main(String[] args) throws IOException {
        LanguageTest t = new LanguageTest();
        List<String> lines = Files.readAllLines(Path.of("src/main/java/RoadOfDoors.java"));
        StringBuilder code = new StringBuilder();
        for (String line : lines) {
            code.append(line.replaceFirst("//.*|/\\*\\*.*\\*/", "").replaceAll("\"[^\"]*\"", "\"\"")).append('\n');
        }
        t.face();
        t.faceTold();
        t.classes();
        t.words(code.toString());
        t.rowsCopied(code.toString());
        t.lengths(lines);
        t.depths(code.toString());
        t.checks.end();
    }

    private void face() {
        Set<String> found = new TreeSet<>();
        for (Method m : RoadOfDoors.class.getDeclaredMethods()) {
            boolean isPrivate = Modifier.isPrivate(m.getModifiers());
            checks.due("rule 1: " + m.getName(), isPrivate, !FACE.contains(m.getName()));
            checks.due("rule 1: public " + m.getName(), isPrivate || Modifier.isPublic(m.getModifiers()), true);
            if (!isPrivate) {
                found.add(m.getName());
            }
        }
        checks.due("rule 1: the face", found.equals(new TreeSet<>(FACE)), true);
        for (Field f : RoadOfDoors.class.getDeclaredFields()) {
            checks.due("rule 1: field " + f.getName(), Modifier.isPublic(f.getModifiers()), f.getName().equals("NONE"));
            checks.due("rule 1: private " + f.getName(), Modifier.isPrivate(f.getModifiers()), !f.getName().equals("NONE"));
        }
        checks.due("rule 1: one constructor", RoadOfDoors.class.getDeclaredConstructors().length, 1);
        checks.due("rule 1: final", Modifier.isFinal(RoadOfDoors.class.getModifiers()), true);
    }

    /** Each line of the document's face is so, by types and all. */
    private void faceTold() {
        String document = Edges.rawDocument();
        int from = document.indexOf("public final class RoadOfDoors {");
        checks.due("the document tells the face", document.isEmpty() || from >= 0, true);
        if (from < 0) {
            return;
        }
        String face = document.substring(from, document.indexOf("\n}", from));
        int constants = 0;
        Set<String> told = new TreeSet<>();
        for (String line : face.substring(face.indexOf('\n') + 1).split("\n")) {
            String bare = line.trim().replaceAll(" \\w+(?=[,)])", "");
            constants += bare.equals("public static final int NONE = -1;") ? 1 : 0;
            told.add(bare);
        }
        checks.due("the face: NONE", constants == 1 && RoadOfDoors.NONE == -1, true);
        told.remove("public static final int NONE = -1;");
        Set<String> found = new TreeSet<>();
        for (Method m : RoadOfDoors.class.getDeclaredMethods()) {
            if (Modifier.isPublic(m.getModifiers())) {
                found.add("public " + m.getReturnType() + " " + m.getName() + "(" + types(m.getParameterTypes()) + ");");
            }
        }
        for (Constructor<?> made : RoadOfDoors.class.getConstructors()) {
            found.add("public RoadOfDoors(" + types(made.getParameterTypes()) + ");");
        }
        checks.due("the face is " + told + ", but " + found, found.equals(told), true);
    }

    private static String types(Class<?>[] types) {
        StringBuilder row = new StringBuilder();
        for (Class<?> type : types) {
            row.append(row.length() == 0 ? "" : ", ").append(type);
        }
        return row.toString();
    }

    private void classes() {
        Class<?>[] inside = RoadOfDoors.class.getDeclaredClasses();
        checks.due("rule 11: classes", inside.length < MOST_CLASSES, true);
        members(RoadOfDoors.class);
        for (Class<?> c : inside) {
            checks.due("rule 2: static " + c, Modifier.isStatic(c.getModifiers()), true);
            checks.due("rule 1: not public " + c, Modifier.isPublic(c.getModifiers()), false);
            members(c);
        }
    }

    private void members(Class<?> c) {
        int fields = 0;
        for (Field f : c.getDeclaredFields()) {
            boolean isStatic = Modifier.isStatic(f.getModifiers());
            checks.due("rule 5: " + f, isStatic && !Modifier.isFinal(f.getModifiers()), false);
            fields += isStatic ? 0 : 1;
        }
        checks.due("rule 11: fields of " + c, fields <= MOST_FIELDS, true);
        for (Method m : c.getDeclaredMethods()) {
            checks.due("rule 11: " + m, m.getParameterCount() <= MOST_PARAMETERS, true);
            checks.due("rule 1: " + m, c != RoadOfDoors.class && FACE.contains(m.getName()), false);
        }
        for (Constructor<?> made : c.getDeclaredConstructors()) {
            checks.due("rule 11: " + made, made.getParameterCount() <= MOST_PARAMETERS, true);
        }
    }

    private void words(String code) {
        absent(6, code, "\\b(throw|throws|try|catch|synchronized|assert)\\b");
        absent(2, code, "->|::|\\bextends\\b|\\bimplements\\b");
        absent(3, code, "\\b(var|Object|Map|Set|Random|Optional|Stream|double|float)\\b");
        absent(4, code, "import (?!java\\.util\\.Arrays;)|\\b(Integer|Long|Character)\\.|Exact\\b");
        absent(4, code, "\\bMath\\.(?!min\\b|max\\b)|\\bArrays\\.(?!fill\\b)|\\bSystem\\.(?!arraycopy\\b)");
        absent(5, code, "\\bstatic\\s*\\{");
        absent(6, code, "\\.(equals|hashCode|toString)\\(");
        absent(13, code, "\\b(nanoTime|currentTimeMillis|Thread|File|Socket|getenv)\\b");
        checks.due("rule 4: constants' signs", code.chars().allMatch(c -> c < 128), true);
        // Rows are made with the object alone: a "new" stands in a field or in a constructor of this file.
        int made = code.split("\\bnew ", -1).length - 1;
        int rows = code.split("= new ", -1).length - 1;
        checks.due("rule 12: new stands behind =", made, rows);
    }

    /** The library copies and fills rows of numbers alone: not of boolean, not of classes. */
    private void rowsCopied(String code) {
        Matcher rows = Pattern.compile("\\b(?!(?:int|long|short|byte|char|double|float)\\[)\\w+\\[\\] (\\w+)").matcher(code);
        while (rows.find()) {
            absent(4, code, "\\b(arraycopy|fill|copyOf|copyOfRange)\\([^;]*\\b" + rows.group(1) + "\\b(?!\\.)");
            absent(4, code, "\\b" + rows.group(1) + "\\.clone\\(");
        }
    }

    /** By the names alone: what bears one name counts as one, so that none is found less deep than it is. */
    private void depths(String code) {
        Map<String, Set<String>> calls = new TreeMap<>();
        Matcher bodies = Pattern.compile("(?ms)^( {4}| {8})(?=\\w)[^\\n;=]*?(\\w+)\\([^\\n]*\\) \\{$(.*?)^\\1\\}$").matcher(code);
        while (bodies.find()) {
            Set<String> called = calls.computeIfAbsent(bodies.group(2), name -> new TreeSet<>());
            Matcher call = Pattern.compile("\\b(\\w+)\\(").matcher(bodies.group(3));
            while (call.find()) {
                called.add(call.group(1));
            }
        }
        // One becomes() copies the traveller's: the only name that calls itself, and no deeper than that.
        checks.due("becomes() is a name of two", calls.getOrDefault("becomes", Set.of()).remove("becomes"), true);
        checks.due("rule 11: methods seen", calls.keySet().containsAll(FACE), true);
        for (String name : FACE) {
            int deep = deep(calls, name, 0);
            checks.due("rule 11: " + name + " goes " + deep + " deep", deep <= MOST_DEEP, true);
        }
    }

    private static int deep(Map<String, Set<String>> calls, String name, int around) {
        int most = around;
        if (calls.containsKey(name) && around <= MOST_DEEP) {
            most = around + 1;
            for (String called : calls.get(name)) {
                most = Math.max(most, deep(calls, called, around + 1));
            }
        }
        return most;
    }

    private void absent(int rule, String code, String pattern) {
        Matcher m = Pattern.compile(pattern).matcher(code);
        boolean is = m.find();
        checks.due("rule " + rule + ": " + (is ? m.group() : pattern), is, false);
    }

    private void lengths(List<String> lines) {
        int start = -1;
        for (int i = 0; i < lines.size(); i++) {
            String line = lines.get(i);
            checks.due("line " + (i + 1) + " is not too long", line.length() <= 125, true);
            if (line.matches(" {4}( {4})?[\\w<>\\[\\] ]+\\(.*\\) \\{")) {
                start = i;
            }
            if (line.matches(" {4}( {4})?\\}") && start >= 0) {
                checks.due("rule 11: method at line " + (start + 1), i - start < MOST_LINES, true);
                start = -1;
            }
        }
    }
}
