import java.io.IOException;
import java.lang.reflect.Executable;
import java.lang.reflect.Field;
import java.lang.reflect.Method;
import java.lang.reflect.Modifier;
import java.nio.charset.StandardCharsets;
import java.nio.file.Files;
import java.nio.file.Path;
import java.util.ArrayList;
import java.util.Arrays;
import java.util.List;
import java.util.Map;
import java.util.Set;
import java.util.TreeMap;
import java.util.TreeSet;
import java.util.regex.Matcher;
import java.util.regex.Pattern;
import java.util.stream.Collectors;

/** The rules of LANGUAGE.md that can be seen in the source's lines, by reflection, or in the compiled classes. */
public final class FormTest {
    private static final Path SOURCE = Path.of("src/main/java/FountainNet.java");
    private static final Set<String> TYPES = Set.of("int", "long", "short", "byte", "char", "boolean", "double",
        "float", "int[]", "long[]", "short[]", "byte[]", "char[]", "boolean[]", "double[]", "float[]", "int[][]",
        "long[][]", "String", "StringBuilder", "ArrayList", "List", "Integer");
    private static final Set<String> CONSTANTS = Set.of("int", "long", "boolean", "char", "String", "int[]", "long[]",
        "char[]", "byte[]");
    /** Of what rule 4 leaves, what the class needs: whoever needs more adds it here, with that rule in mind. */
    private static final Set<String> LIBRARY = Set.of("java/lang/Object.<init>", "java/util/ArrayList.<init>",
        "java/util/ArrayList.add", "java/util/ArrayList.get", "java/util/ArrayList.remove",
        "java/util/ArrayList.size", "java/util/ArrayList.isEmpty", "java/lang/Math.max", "java/lang/Math.min",
        "java/lang/Math.abs", "java/lang/Integer.bitCount");
    private static final List<String> BANNED = List.of("throw", "throws", "try", "catch", "synchronized", "assert",
        "equals", "hashCode", "toString", "System", "Object", "while \\(true\\)", "for \\([^;]*;;");
    private static final Set<String> BUILDERS = Set.of("tank", "joint", "jet", "view");
    private static final Pattern METHOD = Pattern.compile("( {4}| {8})(?:[\\w<>\\[\\]]+ )*(\\w+)\\([^()]*\\) \\{");
    private static final int MOST_CLASSES = 12;
    private static final int MOST_FIELDS = 20;
    private static final int MOST_PARAMETERS = 7;
    private static final int MOST_LINES = 60;
    private static final int MOST_DEPTH = 8;

    private final List<Class<?>> classes = new ArrayList<>();
    private final List<String> code = new ArrayList<>();
    /** Each method's name (a class's for its constructor) with the lines inside; a name may stand for several. */
    private final Map<String, List<String>> methods = new TreeMap<>();

    public static void main(String[] args) throws IOException {
        FormTest form = new FormTest();
        form.read();
        form.rule1NoOtherMembers();
        form.rule2StaticClasses();
        form.rule3Types();
        form.rule4Library();
        form.rule5Constants();
        form.rule6Words();
        form.rules8And11Depth();
        form.rule11Sizes();
        form.rule12ObjectsAreMadeWhereTheyAreKept();
        Due.end("FormTest");
    }

    private static void must(boolean holds, String what) {
        Due.due(what, holds ? 1 : 0, 1);
    }

    /** The source without comments, cut into methods: each begins and ends by a line as far in. */
    private void read() throws IOException {
        classes.add(FountainNet.class);
        classes.addAll(List.of(FountainNet.class.getDeclaredClasses()));
        List<String> inside = null;
        String end = "";
        for (String line : Files.readAllLines(SOURCE, StandardCharsets.ISO_8859_1)) {
            must(line.chars().allMatch(sign -> sign > 0 && sign < 128), "rule 4: plain signs in " + line);
            if (!line.strip().startsWith("/") && !line.strip().startsWith("*")) {
                code.add(line);
                Matcher begins = METHOD.matcher(line);
                if (inside != null) {
                    inside = line.equals(end) ? null : inside;
                } else if (begins.matches()) {
                    end = begins.group(1) + "}";
                    inside = methods.computeIfAbsent(begins.group(2), name -> new ArrayList<>());
                }
                if (inside != null) {
                    inside.add(line);
                }
            }
        }
        must(methods.size() > FountainNet.class.getDeclaredMethods().length, "the methods are found");
    }

    private void rule1NoOtherMembers() {
        must(code.stream().noneMatch(line -> line.startsWith("package")), "rule 1: no package");
        Set<String> open = new TreeSet<>();
        for (Method m : FountainNet.class.getMethods()) {
            open.add(m.getDeclaringClass() == FountainNet.class ? m.getName() : "");
        }
        for (Class<?> c : classes) {
            for (Method m : c.getDeclaredMethods()) {
                boolean isPublic = Modifier.isPublic(m.getModifiers());
                must(isPublic == open.contains(m.getName()), "rule 1: only the face's methods bear its names: " + m);
                must(isPublic == (c == FountainNet.class && !Modifier.isPrivate(m.getModifiers())), "rule 1: " + m);
                must(!m.isSynthetic(), "rule 2: " + m + " is written out");
            }
        }
    }

    private void rule2StaticClasses() {
        for (Class<?> c : classes.subList(1, classes.size())) {
            must(Modifier.isStatic(c.getModifiers()) && c.getDeclaredClasses().length == 0, "rule 2: static is " + c);
        }
        long compiled = Arrays.stream(FountainNet.class.getNestMembers()).count();
        must(compiled == classes.size(), "rule 2: no local or anonymous class");
        must(code.stream().noneMatch(line -> line.contains("->") || line.contains("::")), "rule 2: no lambda");
    }

    private void rule3Types() {
        Set<String> own = classes.stream().map(Class::getSimpleName).collect(Collectors.toCollection(TreeSet::new));
        for (Class<?> c : classes) {
            for (Field f : c.getDeclaredFields()) {
                String type = f.getType().getSimpleName();
                must(TYPES.contains(type) || own.contains(type.replace("[]", "")), "rule 3: the type of " + f);
            }
            for (Method m : c.getDeclaredMethods()) {
                for (Class<?> t : m.getParameterTypes()) {
                    String type = t.getSimpleName();
                    must(TYPES.contains(type) || own.contains(type.replace("[]", "")), "rule 3: the types of " + m);
                }
            }
        }
    }

    /** Also rules 2 and 6 (no lambda, no text joined by +: both would be called dynamically) and 13. */
    private void rule4Library() throws IOException {
        for (Class<?> c : classes) {
            for (String used : CompiledClass.used(c)) {
                must(used.startsWith("FountainNet") || LIBRARY.contains(used), "rule 4: " + c + " uses " + used);
            }
        }
    }

    private void rule5Constants() {
        for (Class<?> c : classes) {
            for (Field f : c.getDeclaredFields()) {
                if (Modifier.isStatic(f.getModifiers())) {
                    must(Modifier.isFinal(f.getModifiers()), "rule 5: " + f + " is final");
                    must(CONSTANTS.contains(f.getType().getSimpleName()), "rule 5: the type of " + f);
                }
            }
        }
        must(code.stream().noneMatch(line -> line.strip().equals("static {")), "rule 5: no static block");
    }

    private void rule6Words() {
        for (String line : code) {
            for (String word : BANNED) {
                boolean isThere = Pattern.compile("(?<!\\w)" + word + "(?!\\w)").matcher(line).find();
                must(!isThere, "rules 6 and 9: " + word + " in " + line);
            }
        }
    }

    /** No method calls itself, not by way of others either. A name that two classes bear counts as one method. */
    private void rules8And11Depth() {
        for (Method m : FountainNet.class.getDeclaredMethods()) {
            depth(m.getName(), new ArrayList<>());
        }
    }

    private void depth(String name, List<String> open) {
        must(!open.contains(name), "rule 8: " + open + " calls " + name + " again");
        must(open.size() < MOST_DEPTH, "rule 11: " + open + " is too deep");
        if (open.contains(name) || open.size() >= MOST_DEPTH) {
            return;
        }
        List<String> behind = new ArrayList<>(open);
        behind.add(name);
        List<String> lines = methods.getOrDefault(name, List.of(""));
        must(lines.size() > 1, "rule 11: the lines of " + name + " are found");
        Set<String> called = new TreeSet<>();
        for (String line : lines.subList(1, lines.size())) {
            Matcher call = Pattern.compile("(\\w+)\\(").matcher(METHOD.matcher(line).matches() ? "" : line);
            while (call.find()) {
                called.add(call.group(1));
            }
        }
        called.retainAll(methods.keySet());
        called.forEach(next -> depth(next, behind));
    }

    private void rule11Sizes() {
        must(classes.size() <= MOST_CLASSES, "rule 11: classes are " + classes.size());
        for (Class<?> c : classes) {
            long fields = Arrays.stream(c.getDeclaredFields()).filter(f -> !Modifier.isStatic(f.getModifiers())).count();
            must(fields <= MOST_FIELDS, "rule 11: fields of " + c + " are " + fields);
            List<Executable> all = new ArrayList<>(List.of(c.getDeclaredMethods()));
            all.addAll(List.of(c.getDeclaredConstructors()));
            for (Executable e : all) {
                must(e.getParameterCount() <= MOST_PARAMETERS, "rule 11: parameters of " + e);
            }
        }
        methods.forEach((name, lines) ->
            must(lines.size() <= MOST_LINES, "rule 11: lines of " + name + " are " + lines.size()));
    }

    /** In constructors, and where something is built or viewed: at most one in each such call. */
    private void rule12ObjectsAreMadeWhereTheyAreKept() {
        Set<String> own = classes.stream().map(Class::getSimpleName).collect(Collectors.toCollection(TreeSet::new));
        methods.forEach((name, lines) -> {
            long made = lines.stream().filter(line -> line.contains("new ")).count();
            boolean mayMake = own.contains(name) || BUILDERS.contains(name) && made == 1;
            must(made == 0 || mayMake, "rule 12: " + name + " makes objects");
        });
    }
}
