/** Promises 4, 7, 8, 9, 10 and 32: JOINTS and their PIPES. */
public final class PipesTest {
    private static final int MIN = Integer.MIN_VALUE;
    private static final int MAX = Integer.MAX_VALUE;

    public static void main(String[] args) {
        joint();
        mostJoints();
        jointRefused();
        pipe();
        leak();
        flow();
        greatestLoss();
        head();
        dry();
        jointOf();
        Due.end("PipesTest");
    }

    /** A TANK of LEVEL 110, JOINTS 0 to 1, and 0 to 2, with JETS 0 at 1 and 1 at 2, the last PIPE EMPTY: 3 from 2. */
    private static FountainNet fork() {
        FountainNet x = new FountainNet();
        x.tank(100, 10, 10, 0);
        x.joint(true, 0, 20, 2, 50);
        x.joint(false, 0, 30, 1, 40);
        x.joint(false, 0, 120, 3, 9);
        x.joint(false, 2, 5, 4, 7);
        x.jet(1, 6);
        x.jet(2, 8);
        x.play(0, true);
        x.play(1, true);
        x.empty(3);
        return x;
    }

    private static void joint() {
        FountainNet x = new FountainNet();
        x.tank(1, 1, 1, 0);
        x.tank(1, 1, 1, 0);
        Due.due("4: the least", x.joint(true, 1, 0, 1, 1), 0);
        Due.due("4: the greatest", x.joint(false, 0, 500, 9, 200), 1);
        Due.due("4: from the other TANK", x.joint(true, 0, 3, 4, 5), 2);
        Due.row("4: of the first", 0, 8, w -> x.jointOf(0, w), 0, 1, 1, 1, -9, -9, 0, 0, 0);
        Due.row("4: of the second", 0, 8, w -> x.jointOf(1, w), 500, 9, 200, 1, 0, -9, 0, 0, 0);
        Due.row("4: of the third", 0, 8, w -> x.jointOf(2, w), 3, 4, 5, 0, -9, -9, 0, 0, 0);
    }

    private static void mostJoints() {
        FountainNet x = new FountainNet();
        x.tank(500, 1, 1, 0);
        Due.due("4: joint 0", x.joint(true, 0, 0, 1, 1), 0);
        for (int j = 1; j < 30; j++) {
            Due.due("4: joint " + j, x.joint(false, j - 1, 0, 1, 1), j);
        }
        Due.due("4: a 31st", x.joint(false, 0, 0, 1, 1), -6);
        Due.due("4: a 31st from a TANK", x.joint(true, 0, 0, 1, 1), -6);
        Due.due("4: a 31st, too low", x.joint(true, 0, -1, 1, 1), -4);
        x.empty(29);
        Due.due("4: a 31st from an EMPTY one", x.joint(false, 29, 0, 1, 1), -6);
        Due.due("4: count(2)", x.count(2), 30);
        x.fill(29);
        x.jet(29, 60);
        x.play(0, true);
        Due.due("9: FLOW through all", x.flow(0), 60);
        Due.due("10: HEAD behind 30 PIPES", x.head(29), 501 - 30 * 36);
        Due.due("32: the JOINT ahead of the last", x.jointOf(29, 4), 28);
        Due.due("32: FEEDER of the last", x.jointOf(29, 3), 0);
    }

    private static void jointRefused() {
        Due.refused("4: no TANK", PipesTest::fork, x -> x.joint(true, 1, 0, 1, 1), -1);
        Due.refused("4: no JOINT", PipesTest::fork, x -> x.joint(false, 4, -1, 1, 1), -1);
        Due.refused("4: TANK -1", PipesTest::fork, x -> x.joint(true, -1, 0, 1, 1), -1);
        Due.refused("4: JOINT -1", PipesTest::fork, x -> x.joint(false, -1, 0, 1, 1), -1);
        Due.refused("4: TANK MAX", PipesTest::fork, x -> x.joint(true, MAX, 0, 1, 1), -1);
        Due.refused("4: JOINT MIN", PipesTest::fork, x -> x.joint(false, MIN, 0, 1, 1), -1);
        Due.refused("4: height -1", PipesTest::fork, x -> x.joint(true, 0, -1, 1, 1), -4);
        Due.refused("4: size 0", PipesTest::fork, x -> x.joint(true, 0, 0, 0, 1), -4);
        Due.refused("4: length 0", PipesTest::fork, x -> x.joint(true, 0, 501, 1, 0), -4);
        Due.refused("4: height 501", PipesTest::fork, x -> x.joint(true, 0, 501, 1, 1), -6);
        Due.refused("4: size 10", PipesTest::fork, x -> x.joint(true, 0, 0, 10, 1), -6);
        Due.refused("4: length 201", PipesTest::fork, x -> x.joint(false, 3, 0, 1, 201), -6);
        Due.refused("4: from an EMPTY one", PipesTest::fork, x -> x.joint(false, 3, 0, 1, 1), -3);
        Due.refused("4: from an EMPTY one, too low", PipesTest::fork, x -> x.joint(false, 3, 0, 0, 1), -4);
    }

    private static void pipe() {
        FountainNet x = fork();
        Due.due("7: pipe(0, 9)", x.pipe(0, 9), 2);
        Due.due("7: pipe(0, 1)", x.pipe(0, 1), 9);
        // 14 * 14 * 50 by 100
        Due.due("7: LOSS", x.jointOf(0, 8), 98);
        Due.due("7: SIZE", x.jointOf(0, 1), 1);
        Due.due("7: of an EMPTY one", x.pipe(3, 2), 4);
        Due.refused("7: no JOINT", PipesTest::fork, y -> y.pipe(4, 1), -1);
        Due.refused("7: JOINT -1, size 0", PipesTest::fork, y -> y.pipe(-1, 0), -1);
        Due.refused("7: JOINT MAX", PipesTest::fork, y -> y.pipe(MAX, 1), -1);
        Due.refused("7: size 0", PipesTest::fork, y -> y.pipe(0, 0), -4);
        Due.refused("7: size MIN", PipesTest::fork, y -> y.pipe(0, MIN), -4);
        Due.refused("7: size 10", PipesTest::fork, y -> y.pipe(0, 10), -6);
    }

    private static void leak() {
        FountainNet x = fork();
        Due.due("8: leak(2, 60)", x.leak(2, 60), 0);
        Due.due("8: leak(2, 5)", x.leak(2, 5), 60);
        Due.due("8: leak(2, 0)", x.leak(2, 0), 5);
        Due.due("8: leak(2, 5)", x.leak(2, 5), 0);
        Due.due("8: leak(3, 9) of an EMPTY one", x.leak(3, 9), 0);
        Due.due("8: it is told", x.jointOf(3, 7), 9);
        Due.row("9: flow", 0, 3, x::flow, 19, 6, 13, 0);
        x.fill(3);
        Due.row("9: FILLED, flow", 0, 3, x::flow, 28, 6, 22, 9);
        Due.refused("8: no JOINT", PipesTest::fork, y -> y.leak(4, 1), -1);
        Due.refused("8: JOINT MIN", PipesTest::fork, y -> y.leak(MIN, -1), -1);
        Due.refused("8: leak -1", PipesTest::fork, y -> y.leak(0, -1), -4);
        Due.refused("8: leak 61", PipesTest::fork, y -> y.leak(0, 61), -6);
        Due.refused("8: leak MAX", PipesTest::fork, y -> y.leak(0, MAX), -6);
    }

    private static void flow() {
        FountainNet x = fork();
        Due.row("9: flow", 0, 3, x::flow, 14, 6, 8, 0);
        x.play(1, false);
        Due.row("9: one SHUT, flow", 0, 3, x::flow, 6, 6, 0, 0);
        x.leak(2, 3);
        x.empty(2);
        Due.row("9: behind an EMPTY one, flow", 0, 3, x::flow, 6, 6, 0, 0);
        Due.refused("9: no JOINT", PipesTest::fork, y -> y.flow(4), -1);
        Due.refused("9: JOINT -1", PipesTest::fork, y -> y.flow(-1), -1);
        Due.refused("9: JOINT MAX", PipesTest::fork, y -> y.flow(MAX), -1);
        Due.refused("9: JOINT MIN", PipesTest::fork, y -> y.flow(MIN), -1);
    }

    /** All DRAWS and LEAKS as great as they may be, in a PIPE of the least SIZE and the greatest LENGTH. */
    private static void greatestLoss() {
        FountainNet x = new FountainNet();
        x.tank(500, 1, 60, 500);
        x.joint(true, 0, 0, 1, 200);
        for (int j = 1; j < 30; j++) {
            x.joint(false, j - 1, 500, 1, 200);
        }
        for (int i = 0; i < 24; i++) {
            x.jet(29 - i, 60);
            x.play(i, true);
        }
        for (int j = 0; j < 30; j++) {
            x.leak(j, 60);
        }
        int losses = 0;
        for (int j = 0; j < 30; j++) {
            int flow = 60 * (30 - j) + 60 * Math.min(24, 30 - j);
            Due.due("9: flow(" + j + ")", x.flow(j), flow);
            losses += 2 * flow * flow;
            Due.due("32: LOSS of " + j, x.jointOf(j, 8), 2L * flow * flow);
        }
        Due.due("10: the least HEAD", x.head(29), 560 - losses - 500);
        Due.due("11: its RISE", x.rise(0), 0);
    }

    private static void head() {
        FountainNet x = fork();
        // LOSSES: 14 * 14 * 50 by 400 is 24; 6 * 6 * 40 by 100 is 14; 8 * 8 * 9 by 900 is 0
        Due.row("10: head", 0, 3, x::head, 66, 42, -34, 0);
        x.fill(3);
        Due.due("10: FILLED", x.head(3), 81);
        x.set(0, 1, 1);
        Due.row("10: LEVEL 100, head", 0, 3, x::head, 56, 32, -44, 71);
        Due.refused("10: no JOINT", PipesTest::fork, y -> y.head(4), 1000000001);
        Due.refused("10: JOINT -1", PipesTest::fork, y -> y.head(-1), 1000000001);
        Due.refused("10: JOINT MAX", PipesTest::fork, y -> y.head(MAX), 1000000001);
        Due.refused("10: JOINT MIN", PipesTest::fork, y -> y.head(MIN), 1000000001);
    }

    private static void dry() {
        FountainNet x = fork();
        x.set(0, 1, 0);
        Due.row("10: no WATER, head", 0, 3, x::head, 0, 0, 0, 0);
        Due.row("9: but FLOW, flow", 0, 3, x::flow, 14, 6, 8, 0);
        Due.due("11: rise(0)", x.rise(0), 0);
        FountainNet y = fork();
        y.play(1, false);
        y.empty(2);
        Due.row("10: an EMPTY one, head", 0, 3, y::head, 86, 62, 0, 0);
    }

    private static void jointOf() {
        FountainNet x = fork();
        x.leak(1, 4);
        Due.row("32: of 0", 0, 8, w -> x.jointOf(0, w), 20, 2, 50, 0, -9, -9, 0, 0, 40);
        Due.row("32: of 1", 0, 8, w -> x.jointOf(1, w), 30, 1, 40, 0, 0, 0, 0, 4, 40);
        Due.row("32: of 2", 0, 8, w -> x.jointOf(2, w), 120, 3, 9, 0, 0, 1, 0, 0, 0);
        Due.row("32: of 3", 0, 8, w -> x.jointOf(3, w), 5, 4, 7, 0, 2, -9, 1, 0, 0);
        Due.refused("32: no JOINT", PipesTest::fork, y -> y.jointOf(4, 0), -1);
        Due.refused("32: JOINT -1, what 9", PipesTest::fork, y -> y.jointOf(-1, 9), -1);
        Due.refused("32: what 9", PipesTest::fork, y -> y.jointOf(0, 9), -2);
        Due.refused("32: what -1", PipesTest::fork, y -> y.jointOf(0, -1), -2);
        Due.refused("32: what MIN", PipesTest::fork, y -> y.jointOf(0, MIN), -2);
    }
}
