import java.util.ArrayList;
import java.util.List;
import java.util.function.Supplier;
import java.util.function.ToIntFunction;

/** What the tests share: it prints every answer that is not the one that is due, and counts them. */
final class Due {
    private static final int AS_TOLD = 1000000000;
    private static final int PARTS = 6;
    private static final int MOST_TASKS_SEEN = 100;
    private static int wrong = 0;

    /** A call of which one number is looked at. */
    interface Call {
        int answer(FountainNet net, int v);
    }

    private Due() {
    }

    static void due(String call, long got, long want) {
        if (got != want) {
            wrong++;
            System.out.println(call + " answered " + got + ", due is " + want);
        }
    }

    static void row(String call, int first, int most, ToIntFunction<Integer> answer, int... wants) {
        for (int i = first; i <= most; i++) {
            due(call + " of " + i, answer.applyAsInt(i), wants[i - first]);
        }
    }

    /**
     * A call must be refused: with this answer, counted once as a refusal of this kind (1 .. 6) and of no
     * other, and nothing else may have changed. Each look is at an object made anew, as calls are few.
     */
    static void refused(String call, Supplier<FountainNet> made, ToIntFunction<FountainNet> act, int answer) {
        int kind = answer < 0 ? -answer : answer - AS_TOLD;
        for (int part = 0; part < PARTS; part++) {
            FountainNet before = made.get();
            FountainNet behind = made.get();
            due(call, act.applyAsInt(behind), answer);
            for (int k = 1; k <= 6; k++) {
                int more = k == kind ? 1 : 0;
                due(call + ", then refusals of kind " + k, behind.count(10 + k), before.count(10 + k) + more);
            }
            sameLook(call + " was refused, but", before, behind, part);
        }
    }

    /** A call must change nothing, count no refusal, and answer the same once more. */
    static void unchanged(String call, Supplier<FountainNet> made, ToIntFunction<FountainNet> act) {
        for (int part = 0; part < PARTS; part++) {
            FountainNet before = made.get();
            FountainNet behind = made.get();
            int answer = act.applyAsInt(behind);
            due(call + ", once more", act.applyAsInt(behind), answer);
            due(call + ", then refusals", refusals(behind), refusals(before));
            sameLook(call, before, behind, part);
        }
    }

    private static void sameLook(String call, FountainNet before, FountainNet behind, int part) {
        List<Integer> is = look(behind, part);
        List<Integer> was = look(before, part);
        if (!is.equals(was)) {
            wrong++;
            System.out.println(call + " changed " + was + " to " + is);
        }
    }

    /** A call must be taken: with this answer, and nothing counted as a refusal. */
    static void taken(String call, Supplier<FountainNet> made, ToIntFunction<FountainNet> act, int answer) {
        FountainNet net = made.get();
        int before = refusals(net);
        due(call, act.applyAsInt(net), answer);
        due(call + ", then refusals", refusals(net), before);
    }

    /** A number that a call tells: its ends are taken (with this answer) and held, what is beyond them is -4 or -6. */
    static void range(String call, Supplier<FountainNet> made, int least, int most, int answer, Call act,
            ToIntFunction<FountainNet> held) {
        range(call, made, new int[] {least, most, answer}, act, held, 0);
    }

    /** The same of a call whose refusals are told as 1000000000 less them. */
    static void rangeAsTold(String call, Supplier<FountainNet> made, int least, int most, int answer, Call act,
            ToIntFunction<FountainNet> held) {
        range(call, made, new int[] {least, most, answer}, act, held, AS_TOLD);
    }

    private static void range(String call, Supplier<FountainNet> made, int[] told, Call act,
            ToIntFunction<FountainNet> held, int base) {
        int sign = base == 0 ? -1 : 1;
        for (int v : new int[] {told[0], told[1]}) {
            taken(call + ", " + v, made, x -> act.answer(x, v), told[2]);
            FountainNet net = made.get();
            act.answer(net, v);
            due(call + ", " + v + " is held", held.applyAsInt(net), v);
        }
        for (int v : new int[] {told[0] - 1, Integer.MIN_VALUE}) {
            refused(call + ", " + v, made, x -> act.answer(x, v), base + sign * 4);
        }
        for (int v : new int[] {told[1] + 1, Integer.MAX_VALUE}) {
            refused(call + ", " + v, made, x -> act.answer(x, v), base + sign * 6);
        }
    }

    /** A number of a TANK, a JOINT or a JET of which there are so many: the first and the last one are there. */
    static void number(String call, Supplier<FountainNet> made, int count, Call act) {
        number(call, made, count, act, -1);
    }

    static void number(String call, Supplier<FountainNet> made, int count, Call act, int nobody) {
        for (int v : new int[] {-1, count, Integer.MIN_VALUE, Integer.MAX_VALUE}) {
            refused(call + ", number " + v, made, x -> act.answer(x, v), nobody);
        }
        for (int v = 0; v < count; v += Math.max(1, count - 1)) {
            FountainNet net = made.get();
            int before = net.count(11);
            act.answer(net, v);
            due(call + ", number " + v + " is there", net.count(11), before);
        }
    }

    /** What a call tells by a number: from 0 to the most of them, else it is OTHER. */
    static void whats(String call, Supplier<FountainNet> made, int most, Call act) {
        for (int v : new int[] {-1, most + 1, Integer.MIN_VALUE, Integer.MAX_VALUE}) {
            refused(call + ", what " + v, made, x -> act.answer(x, v), -2);
        }
        for (int v = 0; v <= most; v++) {
            FountainNet net = made.get();
            int before = refusals(net);
            act.answer(net, v);
            due(call + ", what " + v + " is told", refusals(net), before);
        }
    }

    private static int refusals(FountainNet net) {
        int all = 0;
        for (int what = 11; what <= 16; what++) {
            all += net.count(what);
        }
        return all;
    }

    /** A part of all that can be seen, but for refusals; each in fewer than 350 calls. */
    private static List<Integer> look(FountainNet net, int part) {
        List<Integer> seen = new ArrayList<>();
        switch (part) {
            case 0:
                lookAtTanks(net, seen);
                break;
            case 1:
                lookAtJoints(net, seen);
                break;
            case 2:
                lookAtJets(net, seen);
                break;
            case 3:
                lookAtWalk(net, seen);
                break;
            case 4:
                lookAtTasks(net, seen);
                break;
            default:
                lookAtViews(net, seen);
                break;
        }
        return seen;
    }

    private static void lookAtTanks(FountainNet net, List<Integer> seen) {
        for (int c = 0; c <= 6; c++) {
            seen.add(net.count(c));
        }
        for (int i = 0; i < net.count(1); i++) {
            for (int w = 0; w < 6; w++) {
                seen.add(net.tankOf(i, w));
            }
            seen.add(net.lasts(i));
        }
        for (int i = 0; i <= net.count(2); i++) {
            seen.add(net.order(i));
        }
    }

    private static void lookAtJoints(FountainNet net, List<Integer> seen) {
        int joints = net.count(2);
        for (int j = 0; j < joints; j++) {
            for (int w = 0; w < 9; w++) {
                seen.add(net.jointOf(j, w));
            }
            seen.add(net.flow(j));
            seen.add(net.head(j));
        }
    }

    private static void lookAtJets(FountainNet net, List<Integer> seen) {
        seen.add(net.explain());
        for (int w = 0; w < 4; w++) {
            seen.add(net.explained(w));
        }
        seen.add(net.rivals());
        seen.add(net.tol(0));
        int jets = net.count(3);
        for (int i = 0; i < jets; i++) {
            seen.add(net.rise(i));
            seen.add(net.share(i, 0));
            seen.add(net.gauge(i, -1));
            seen.add(net.play(i, false));
        }
    }

    private static void lookAtWalk(FountainNet net, List<Integer> seen) {
        for (int w = 0; w < 5; w++) {
            seen.add(net.walk(w));
        }
        seen.add(net.most());
        seen.add(net.tasks());
        seen.add(net.boys());
        seen.add(net.pace(1));
    }

    private static void lookAtTasks(FountainNet net, List<Integer> seen) {
        int tasks = net.tasks();
        for (int i = 0; i < tasks && i < MOST_TASKS_SEEN; i++) {
            for (int w = 0; w < 3; w++) {
                seen.add(net.task(i, w));
            }
        }
    }

    /** From the last VIEW on, as the RISE of one is seen only where the WALK comes to it. */
    private static void lookAtViews(FountainNet net, List<Integer> seen) {
        int views = net.count(5);
        for (int i = 0; i <= views; i++) {
            for (int w = 0; w < 5; w++) {
                seen.add(net.walk(w));
            }
            seen.add(net.most());
            seen.add(net.unview());
        }
    }

    static void end(String name) {
        System.out.println(name + (wrong == 0 ? ": all answers are as due" : ": " + wrong + " answers are not as due"));
        if (wrong != 0) {
            System.exit(1);
        }
    }
}
