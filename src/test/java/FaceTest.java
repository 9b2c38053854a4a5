import java.io.IOException;
import java.lang.reflect.Constructor;
import java.lang.reflect.Field;
import java.lang.reflect.Method;
import java.lang.reflect.Modifier;
import java.nio.charset.StandardCharsets;
import java.nio.file.Files;
import java.nio.file.Path;
import java.util.ArrayList;
import java.util.Arrays;
import java.util.List;
import java.util.Set;
import java.util.TreeSet;
import java.util.stream.Collectors;

/** The class's face is the document's: the code block under "The public face", no more and no less. */
public final class FaceTest {
    private static final Path DOCUMENT = Path.of("../shared/DOC.md");
    private static final Path SOURCE = Path.of("src/main/java/FountainNet.java");
    private static final int PROMISES = 33;

    public static void main(String[] args) throws IOException {
        List<String> document = Files.readAllLines(DOCUMENT, StandardCharsets.UTF_8);
        List<String> face = face(document);
        Due.due("the face has a constructor and methods", face.size(), PROMISES);
        theClassItself(document);
        oneConstructor();
        justTheseMethods(face);
        asTheyAreWritten(face);
        eachHasAPromise(document, face);
        noFieldsToSee();
        Due.end("FaceTest");
    }

    private static void must(boolean holds, String what) {
        Due.due(what, holds ? 1 : 0, 1);
    }

    /** The lines of the code block inside the class, such as "public int tank(int floor, ..)". */
    private static List<String> face(List<String> document) {
        List<String> face = new ArrayList<>();
        for (int i = document.indexOf("```java") + 1; i > 0 && !document.get(i).equals("```"); i++) {
            if (document.get(i).endsWith(");")) {
                face.add(document.get(i).strip().replace(";", ""));
            }
        }
        return face;
    }

    private static void theClassItself(List<String> document) {
        must(document.contains("public final class FountainNet {"), "the document's class");
        must(Modifier.isPublic(FountainNet.class.getModifiers()), "the class is public");
        must(Modifier.isFinal(FountainNet.class.getModifiers()), "the class is final");
        must(FountainNet.class.getPackageName().isEmpty(), "the class has no package");
        must(FountainNet.class.getSuperclass() == Object.class, "the class extends none");
        must(FountainNet.class.getInterfaces().length == 0, "the class implements none");
    }

    private static void oneConstructor() {
        Constructor<?>[] made = FountainNet.class.getDeclaredConstructors();
        must(made.length == 1, "one constructor");
        must(Modifier.isPublic(made[0].getModifiers()), "it is public");
        must(made[0].getParameterCount() == 0, "it takes nothing");
        must(made[0].getExceptionTypes().length == 0, "it throws nothing");
    }

    private static void justTheseMethods(List<String> face) {
        Set<String> due = face.subList(1, face.size()).stream()
            .map(line -> line.replaceAll(" \\w+(?=[,)])", "")).collect(Collectors.toCollection(TreeSet::new));
        Set<String> got = new TreeSet<>();
        for (Method m : FountainNet.class.getDeclaredMethods()) {
            if (!Modifier.isPrivate(m.getModifiers())) {
                got.add(Modifier.toString(m.getModifiers()) + " " + m.getReturnType() + " " + m.getName()
                    + Arrays.stream(m.getParameterTypes()).map(Class::getName)
                        .collect(Collectors.joining(", ", "(", ")")));
                must(m.getExceptionTypes().length == 0, m + " throws nothing");
            }
        }
        must(got.equals(due), "methods are " + got + ", due are " + due);
    }

    /** With the parameters' names, and in the document's order. */
    private static void asTheyAreWritten(List<String> face) throws IOException {
        List<String> written = Files.readAllLines(SOURCE, StandardCharsets.UTF_8).stream().map(String::strip)
            .filter(line -> line.startsWith("public ") && line.endsWith(") {"))
            .map(line -> line.substring(0, line.length() - 2)).collect(Collectors.toList());
        must(written.equals(face), "the source's face is " + written);
    }

    /** "## Promise 2: tank", and behind it "`int tank(int floor, ..)`: ..". */
    private static void eachHasAPromise(List<String> document, List<String> face) {
        for (int i = 0; i < face.size(); i++) {
            String call = face.get(i).replace("public ", "");
            String name = i == 0 ? "A new object" : call.substring(4, call.indexOf('('));
            must(document.contains("## Promise " + (i + 1) + ": " + name), "promise " + (i + 1) + " of " + name);
            must(document.stream().anyMatch(line -> line.startsWith("`" + call + "`:")), "a promise of " + call);
        }
    }

    private static void noFieldsToSee() {
        for (Field f : FountainNet.class.getDeclaredFields()) {
            must(Modifier.isPrivate(f.getModifiers()), f + " is private");
        }
        for (Class<?> c : FountainNet.class.getDeclaredClasses()) {
            must(!Modifier.isPublic(c.getModifiers()) && !Modifier.isProtected(c.getModifiers()), c + " is not public");
        }
    }
}
