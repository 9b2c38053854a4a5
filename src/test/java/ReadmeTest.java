import java.io.IOException;
import java.nio.charset.StandardCharsets;
import java.nio.file.Files;
import java.nio.file.Path;
import java.util.List;
import java.util.Set;
import java.util.TreeSet;
import java.util.regex.Matcher;
import java.util.regex.Pattern;
import java.util.stream.Collectors;
import java.util.stream.Stream;

/** What README.md shows: its runs of calls answer as it tells, and its table names all tests. */
public final class ReadmeTest {
    private static final Pattern CALL = Pattern.compile("net\\.(\\w+\\([^)]*\\));\\s*// (-?\\d+)(:.*)?");
    private static final Pattern ROW = Pattern.compile("\\| `(\\w+Test)` \\|.*");
    private static final String MADE = "FountainNet net = new FountainNet();";
    private static final int LEAST_CALLS = 50;

    public static void main(String[] args) throws IOException {
        List<String> lines = Files.readAllLines(Path.of("README.md"), StandardCharsets.UTF_8);
        runs(lines);
        refusalsAreAllTold(lines);
        testsAreAllTold(lines);
        Due.end("ReadmeTest");
    }

    /** Each block of Java begins with an object made anew; each line behind it is a call with its answer. */
    private static void runs(List<String> lines) {
        int calls = 0;
        FountainNet net = null;
        boolean inside = false;
        for (String line : lines) {
            if (line.startsWith("```")) {
                inside = line.equals("```java");
                net = null;
            } else if (inside && net == null) {
                Due.due("README: a run begins with " + MADE + ", not " + line, line.equals(MADE) ? 1 : 0, 1);
                net = new FountainNet();
            } else if (inside) {
                answers(net, line);
                calls++;
            }
        }
        Due.due("README: calls enough, " + calls, calls >= LEAST_CALLS ? 1 : 0, 1);
    }

    private static void answers(FountainNet net, String line) {
        Matcher call = CALL.matcher(line);
        boolean isCall = call.matches();
        Due.due("README: a call with its answer: " + line, isCall ? 1 : 0, 1);
        if (isCall) {
            Due.due("README: " + call.group(1), Calls.answer(net, call.group(1)), Integer.parseInt(call.group(2)));
        }
    }

    private static void refusalsAreAllTold(List<String> lines) {
        for (int refusal : new int[] {1, 2, 3, 4, 6}) {
            String answer = "| -" + refusal + " |";
            String count = "`count(" + (10 + refusal) + ")` |";
            long told = lines.stream().filter(line -> line.startsWith(answer) && line.endsWith(count)).count();
            Due.due("README: rows of refusal -" + refusal, told, 1);
        }
    }

    private static void testsAreAllTold(List<String> lines) throws IOException {
        Set<String> told = new TreeSet<>();
        for (String line : lines) {
            Matcher row = ROW.matcher(line);
            if (row.matches()) {
                told.add(row.group(1));
            }
        }
        try (Stream<Path> files = Files.list(Path.of("src/test/java"))) {
            Set<String> there = files.map(file -> file.getFileName().toString())
                .filter(name -> name.endsWith("Test.java"))
                .map(name -> name.substring(0, name.length() - ".java".length()))
                .collect(Collectors.toCollection(TreeSet::new));
            Due.due("README: told are " + told + ", there are " + there, told.equals(there) ? 1 : 0, 1);
        }
    }
}
