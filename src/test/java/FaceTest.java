import java.io.IOException;
import java.lang.reflect.Constructor;
import java.lang.reflect.Field;
import java.lang.reflect.Method;
import java.lang.reflect.Modifier;
import java.nio.charset.StandardCharsets;
import java.nio.file.Files;
import java.nio.file.Path;
import java.util.ArrayList;
import java.util.List;
import java.util.Set;
import java.util.TreeSet;

/** The class's face is the document's, and its form keeps to what of LANGUAGE.md can be seen from outside. */
public final class FaceTest {
    private static final String[] FACE = {
        "tank(int, int, int, int)", "set(int, int, int)", "joint(boolean, int, int, int, int)", "jet(int, int)",
        "play(int, boolean)", "pipe(int, int)", "leak(int, int)", "flow(int)", "head(int)", "rise(int)",
        "share(int, int)", "minutes(int)", "lasts(int)", "view(int, int, int, int)", "unview()", "walk(int)",
        "most()", "pace(int)", "tasks()", "task(int, int)", "boys()", "gauge(int, int)", "tol(int)", "explain()",
        "explained(int)", "rivals()", "empty(int)", "fill(int)", "order(int)", "tankOf(int, int)",
        "jointOf(int, int)", "count(int)",
    };
    private static final Set<String> IMPORTS = Set.of("java.util.ArrayList", "java.util.List", "java.util.Arrays",
        "java.util.Iterator");
    private static final String[] BANNED = {
        "throw", "throws", "try", "catch", "synchronized", "assert", "equals", "hashCode", "toString", "System.out",
        "Exact",
    };
    private static final int MOST_CLASSES = 12;
    private static final int MOST_FIELDS = 20;
    private static final int MOST_PARAMETERS = 7;
    private static final int MOST_LINES = 60;

    private FaceTest() {
    }

    private static void must(boolean holds, String what) {
        Due.due(what, holds ? 1 : 0, 1);
    }

    public static void main(String[] args) throws IOException {
        face();
        Class<?>[] inside = FountainNet.class.getDeclaredClasses();
        must(inside.length + 1 <= MOST_CLASSES, "classes: " + inside.length);
        form(FountainNet.class);
        for (Class<?> c : inside) {
            must(Modifier.isStatic(c.getModifiers()), c + " is static");
            must(!Modifier.isPublic(c.getModifiers()) && !Modifier.isProtected(c.getModifiers()), c + " is not public");
            form(c);
            for (Method m : c.getDeclaredMethods()) {
                must(List.of(FACE).stream().noneMatch(f -> f.startsWith(m.getName() + "(")), m + " bears another name");
            }
        }
        source(Files.readAllLines(Path.of("src/main/java/FountainNet.java"), StandardCharsets.ISO_8859_1));
        Due.end("FaceTest");
    }

    private static void face() {
        Class<?> c = FountainNet.class;
        must(Modifier.isPublic(c.getModifiers()) && Modifier.isFinal(c.getModifiers()), "public and final");
        Constructor<?>[] made = c.getDeclaredConstructors();
        must(made.length == 1 && Modifier.isPublic(made[0].getModifiers()) && made[0].getParameterCount() == 0,
            "one constructor");
        Set<String> open = new TreeSet<>();
        Set<String> names = new TreeSet<>();
        for (Method m : c.getDeclaredMethods()) {
            if (!Modifier.isPrivate(m.getModifiers())) {
                String parameters = List.of(m.getParameterTypes()).toString().replace("[", "(").replace("]", ")");
                open.add(m.getName() + parameters);
                names.add(m.getName());
                must(m.getReturnType() == int.class && Modifier.isPublic(m.getModifiers()), m + " is as told");
            }
        }
        must(open.equals(new TreeSet<>(List.of(FACE))), "the face " + open);
        for (Method m : c.getDeclaredMethods()) {
            must(!Modifier.isPrivate(m.getModifiers()) || !names.contains(m.getName()), m + " bears another name");
        }
        for (Field f : c.getDeclaredFields()) {
            must(Modifier.isPrivate(f.getModifiers()), f + " is private");
        }
    }

    private static void form(Class<?> c) {
        int fields = 0;
        for (Field f : c.getDeclaredFields()) {
            boolean fixed = Modifier.isStatic(f.getModifiers());
            must(!fixed || Modifier.isFinal(f.getModifiers()), f + " is final");
            fields += fixed ? 0 : 1;
        }
        must(fields <= MOST_FIELDS, c + " has " + fields + " fields");
        for (Method m : c.getDeclaredMethods()) {
            must(m.getParameterCount() <= MOST_PARAMETERS, m + " takes few parameters");
            must(!m.isSynthetic(), m + " is written out");
        }
        for (Constructor<?> m : c.getDeclaredConstructors()) {
            must(m.getParameterCount() <= MOST_PARAMETERS, m + " takes few parameters");
        }
    }

    private static void source(List<String> lines) {
        List<String> code = new ArrayList<>();
        for (String line : lines) {
            String bare = line.strip();
            boolean comment = bare.startsWith("/") || bare.startsWith("*");
            code.add(comment ? "" : line);
            must(line.chars().allMatch(ch -> ch > 0 && ch < 128), "plain signs: " + line);
        }
        for (String line : code) {
            must(!line.contains("->") && !line.contains("::"), "no lambda: " + line);
            must(!line.startsWith("package"), "no package: " + line);
            must(!line.startsWith("import") || IMPORTS.contains(line.substring(7, line.length() - 1)), line);
            for (String word : BANNED) {
                must(!line.matches(".*\\b" + word.replace(".", "\\.") + "\\b.*"), word + " in: " + line);
            }
        }
        methodLengths(code);
    }

    /** A method begins where a line ends with a parameter list and a brace, and ends at a brace as far in. */
    private static void methodLengths(List<String> code) {
        for (int i = 0; i < code.size(); i++) {
            String line = code.get(i);
            int in = line.length() - line.stripLeading().length();
            if (line.endsWith(") {") && (in == 4 || in == 8) && !line.matches("\\s*(if|for|while|switch|\\}).*")) {
                int end = i;
                while (end < code.size() && !code.get(end).equals(" ".repeat(in) + "}")) {
                    end++;
                }
                must(end - i < MOST_LINES, "a method of " + (end - i) + " lines: " + line);
            }
        }
    }
}
