import java.util.function.ToIntFunction;

/** What no promise tells by itself: the 512 calls of an object, looks that change nothing, objects side by side. */
public final class WholeTest {
    private static final int CALLS = 512;
    private static final String[] BUILT = {
        "tank(100, 10, 6, 0) = 0", "joint(true, 0, 10, 9, 1) = 0", "joint(true, 0, 20, 9, 1) = 1", "jet(0, 5) = 0",
        "jet(1, 7) = 1",
    };
    /** Each method of the face but minutes(), so that only REFUSALS are more behind it; LEVEL 106, no LOSS. */
    private static final String[] ROUND = {
        "play(0, true) = 1", "play(1, true) = 1", "rise(0) = 86", "share(0, 1) = 0", "gauge(1, 77) = -1",
        "explain() = 0", "explained(0) = -9", "rivals() = 2", "gauge(1, -1) = 77", "lasts(0) = 5", "play(0, false) = 1",
        "play(1, false) = 1", "view(3, 1440, 1440, 0) = 0", "walk(0) = -9", "most() = 77", "tasks() = 4",
        "task(3, 0) = 1441", "boys() = 2", "pace(0) = 1", "boys() = 1", "pace(1) = 0", "unview() = 0", "leak(1, 9) = 0",
        "flow(1) = 9", "head(1) = 86", "jointOf(1, 7) = 9", "leak(1, 0) = 9", "pipe(0, 1) = 9", "pipe(0, 9) = 1",
        "set(0, 1, 0) = 60", "tankOf(0, 0) = 100", "set(0, 1, 60) = 0", "tol(50) = 0", "tol(0) = 50", "order(0) = 1",
        "empty(1) = 1", "order(0) = 0", "fill(1) = 1", "joint(true, 1, 0, 1, 1) = -1", "jet(2, 1) = -1",
        "tank(0, 0, 1, 1) = -4", "tank(0, 1, 61, 1) = -6", "walk(5) = -2", "head(2) = 1000000001", "count(4) = 0",
    };

    public static void main(String[] args) {
        all512Calls();
        refused512Times();
        emptiedAndFilled512Times();
        looksChangeNothing();
        objectsSideBySide();
        Due.end("WholeTest");
    }

    private static void answers(FountainNet net, int number, String row) {
        String[] parts = row.split(" = ");
        Due.due("call " + number + ": " + parts[0], Calls.answer(net, parts[0]), Integer.parseInt(parts[1]));
    }

    private static String callOf(int number) {
        int behind = number - BUILT.length;
        return number < BUILT.length ? BUILT[number] : ROUND[behind % ROUND.length];
    }

    /** "An object is used for at most 512 calls after it has been made" */
    private static void all512Calls() {
        FountainNet net = new FountainNet();
        for (int n = 0; n < CALLS - 8; n++) {
            answers(net, n, callOf(n));
        }
        int rounds = (CALLS - 8 - BUILT.length) / ROUND.length;
        Due.due("13: MINUTE", net.minutes(3), 3);
        Due.row("33: count", 11, 16, net::count, 3 * rounds, rounds, 0, rounds, 0, rounds);
        Due.due("33: the 512th call", net.count(0), 3);
    }

    private static void refused512Times() {
        FountainNet net = new FountainNet();
        for (int n = 1; n < CALLS; n++) {
            Due.due("16: call " + n, net.unview(), -3);
        }
        Due.due("33: all refused", net.count(13), CALLS - 1);
    }

    private static void emptiedAndFilled512Times() {
        FountainNet net = new FountainNet();
        net.tank(100, 10, 6, 0);
        net.joint(true, 0, 10, 9, 1);
        for (int n = 2; n + 2 <= CALLS; n += 2) {
            Due.due("28: call " + n, net.empty(0), 1);
            Due.due("29: call " + (n + 1), net.fill(0), 1);
        }
    }

    private static void looks(String call, ToIntFunction<FountainNet> look) {
        Due.unchanged(call + " of a garden", Gardens::some, look);
        Due.unchanged(call + " of a full garden", Gardens::full, look);
    }

    /** What only tells, tells the same again, and changes nothing. */
    private static void looksChangeNothing() {
        looks("9: flow", x -> x.flow(0));
        looks("10: head", x -> x.head(1));
        looks("11: rise", x -> x.rise(1));
        looks("12: share", x -> x.share(0, 1));
        looks("14: lasts", x -> x.lasts(0));
        looks("18: most", FountainNet::most);
        looks("20: tasks", FountainNet::tasks);
        looks("21: task", x -> x.task(1, 0));
        looks("25: explain", FountainNet::explain);
        looks("27: rivals", FountainNet::rivals);
        looks("30: order", x -> x.order(1));
        for (int w = 0; w < 5; w++) {
            int what = w;
            looks("17: walk " + w, x -> x.walk(what));
            looks("26: explained " + w, x -> x.explained(what % 4));
            looks("31: tankOf " + w, x -> x.tankOf(0, what));
            looks("32: jointOf " + w, x -> x.jointOf(1, 4 + what));
            looks("33: count " + w, x -> x.count(what));
        }
        Due.unchanged("22: boys", Gardens::some, FountainNet::boys);
    }

    /** What one object is told is nothing to another. */
    private static void objectsSideBySide() {
        FountainNet one = new FountainNet();
        FountainNet other = new FountainNet();
        for (int n = 0; n < CALLS; n++) {
            answers(one, n, callOf(n));
            if (n >= ROUND.length / 2) {
                answers(other, n, callOf(n - ROUND.length / 2));
            }
        }
    }
}
