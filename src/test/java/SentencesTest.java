import java.io.IOException;
import java.nio.charset.StandardCharsets;
import java.nio.file.Files;
import java.nio.file.Path;
import java.util.ArrayList;
import java.util.List;
import java.util.regex.Matcher;
import java.util.regex.Pattern;

/** No sentence of the document is without a test: src/test/sentences.txt tells them all, and tests that there are. */
public final class SentencesTest {
    private static final Path DOCUMENT = Path.of("../shared/DOC.md");
    private static final Path SENTENCES = Path.of("src/test/sentences.txt");
    private static final Path TESTS = Path.of("src/test/java");
    private static final String INSET = "    ";
    private static final String FREE = "free";
    private static final int SHOWN = 60;

    public static void main(String[] args) throws IOException {
        List<String> told = Files.readAllLines(SENTENCES, StandardCharsets.UTF_8);
        sentencesAreTheDocument(told);
        eachHasATest(told);
        testsAreThere(told);
        Due.end("SentencesTest");
    }

    private static void sentencesAreTheDocument(List<String> told) throws IOException {
        StringBuilder sentences = new StringBuilder();
        for (String line : told) {
            sentences.append(line.startsWith("#") || line.startsWith(INSET) ? "" : line);
        }
        String is = bare(sentences);
        String due = document();
        int i = 0;
        while (i < is.length() && i < due.length() && is.charAt(i) == due.charAt(i)) {
            i++;
        }
        String where = i + SHOWN < due.length() ? due.substring(i, i + SHOWN) : due.substring(i);
        Due.due("the document's sentences are told till " + where, is.length() == i && due.length() == i ? 1 : 0, 1);
    }

    /** The document's text without its headings and without the face, which FaceTest reads. */
    private static String document() throws IOException {
        StringBuilder text = new StringBuilder();
        boolean isFace = false;
        for (String line : Files.readAllLines(DOCUMENT, StandardCharsets.UTF_8)) {
            boolean isFence = line.startsWith("```");
            isFace = isFence ? line.equals("```java") : isFace;
            text.append(isFence || isFace || line.startsWith("#") ? "" : line.replace("====", ""));
        }
        return bare(text);
    }

    private static String bare(CharSequence text) {
        return text.toString().replaceAll("\\s+", "");
    }

    private static void eachHasATest(List<String> told) {
        for (int i = 0; i < told.size(); i++) {
            boolean isSentence = !told.get(i).isBlank() && !told.get(i).startsWith("#") && !told.get(i).startsWith(INSET);
            boolean isTested = i + 1 < told.size() && told.get(i + 1).startsWith(INSET);
            Due.due("a test of: " + told.get(i), !isSentence || isTested ? 1 : 0, 1);
        }
    }

    /** As "WalkEdgesTest.most": a method of that file, which something in it calls. */
    private static void testsAreThere(List<String> told) throws IOException {
        for (String name : testsTold(told)) {
            int dot = name.indexOf('.');
            Path file = TESTS.resolve(name.substring(0, Math.max(0, dot)) + ".java");
            String source = dot > 0 && Files.exists(file) ? Files.readString(file, StandardCharsets.UTF_8) : "";
            String method = Pattern.quote(name.substring(dot + 1));
            Due.due(name + " is there", count("void " + method + "\\(", source), 1);
            Due.due(name + " is called", count("\n +(test\\.)?" + method + "\\((lines)?\\);", source), 1);
        }
    }

    private static List<String> testsTold(List<String> told) {
        List<String> names = new ArrayList<>();
        for (String line : told) {
            if (line.startsWith(INSET) && !line.strip().equals(FREE)) {
                names.addAll(List.of(line.strip().split(", ")));
            }
        }
        return names;
    }

    private static int count(String what, String source) {
        Matcher found = Pattern.compile(what).matcher(source);
        int times = 0;
        while (found.find()) {
            times++;
        }
        return times;
    }
}
