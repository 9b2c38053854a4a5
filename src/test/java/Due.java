import java.util.ArrayList;
import java.util.List;
import java.util.function.Supplier;
import java.util.function.ToIntFunction;

/** What the tests share: it prints every answer that is not the one that is due, and counts them. */
final class Due {
    private static int wrong = 0;

    private Due() {
    }

    static void due(String call, long got, long want) {
        if (got != want) {
            wrong++;
            System.out.println(call + " answered " + got + ", due is " + want);
        }
    }

    static void row(String call, int first, int most, ToIntFunction<Integer> answer, int... wants) {
        for (int i = first; i <= most; i++) {
            due(call + " of " + i, answer.applyAsInt(i), wants[i - first]);
        }
    }

    /**
     * A call must be refused: with this answer, counted once as a refusal of this kind (1 .. 6) and of no
     * other, and nothing else may have changed. Each look is at an object made anew, as calls are few.
     */
    static void refused(String call, Supplier<FountainNet> made, ToIntFunction<FountainNet> act, int answer) {
        int kind = answer < 0 ? -answer : answer - 1000000000;
        FountainNet before = made.get();
        FountainNet behind = made.get();
        due(call, act.applyAsInt(behind), answer);
        for (int k = 1; k <= 6; k++) {
            int more = k == kind ? 1 : 0;
            due(call + ", then refusals of kind " + k, behind.count(10 + k), before.count(10 + k) + more);
        }
        List<Integer> is = look(behind);
        List<Integer> was = look(before);
        if (!is.equals(was)) {
            wrong++;
            System.out.println(call + " was refused, but changed " + was + " to " + is);
        }
    }

    /** All that can be seen, but for refusals; for small gardens, in fewer than 400 calls. */
    private static List<Integer> look(FountainNet net) {
        List<Integer> seen = new ArrayList<>();
        for (int c = 0; c <= 6; c++) {
            seen.add(net.count(c));
        }
        for (int i = 0; i < net.count(1); i++) {
            for (int w = 0; w < 6; w++) {
                seen.add(net.tankOf(i, w));
            }
        }
        int joints = net.count(2);
        for (int j = 0; j < joints && j < 5; j++) {
            for (int w = 0; w < 9; w++) {
                seen.add(net.jointOf(j, w));
            }
        }
        int jets = net.count(3);
        for (int i = 0; i < jets && i < 5; i++) {
            seen.add(net.rise(i));
            seen.add(net.gauge(i, -1));
        }
        int tasks = net.tasks();
        seen.add(tasks);
        for (int i = 0; i < tasks && i < 30; i++) {
            seen.add(net.task(i, 0) * 100 + net.task(i, 1) * 2 + net.task(i, 2));
        }
        for (int w = 0; w < 5; w++) {
            seen.add(net.walk(w));
        }
        seen.add(net.pace(1));
        seen.add(net.tol(0));
        return seen;
    }

    static void end(String name) {
        System.out.println(name + (wrong == 0 ? ": all answers are as due" : ": " + wrong + " answers are not as due"));
        if (wrong != 0) {
            System.exit(1);
        }
    }
}
