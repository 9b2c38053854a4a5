/** Promises 4, 7 to 10 and 32, and the terms of JOINTS: a test for each sentence that names an edge. */
public final class PipeEdgesTest {
    private static final int MIN = Integer.MIN_VALUE;
    private static final int MAX = Integer.MAX_VALUE;

    public static void main(String[] args) {
        eachNumberOfAJoint();
        fromWhatIsThereAlready();
        feeder();
        thirtyAtMost();
        pipeAheadEmpty();
        jointRefusedInOrder();
        pipe();
        leak();
        flowOfJets();
        flowOfLeaks();
        flowOfEmptyOnes();
        lossIsCut();
        head();
        dryWithoutWater();
        dryBehindEmptyOnes();
        looksRefused();
        jointOf();
        Due.end("PipeEdgesTest");
    }

    /** One TANK of LEVEL 106, so many JOINTS, each from the one ahead, no LOSS but of much FLOW. */
    private static FountainNet row(int joints) {
        FountainNet x = new FountainNet();
        x.tank(100, 10, 6, 0);
        for (int j = 0; j < joints; j++) {
            x.joint(j == 0, Math.max(0, j - 1), 6, 9, 1);
        }
        return x;
    }

    /** "each at a HEIGHT (0 .. 500 feet)"; "a SIZE (1 .. 9), a LENGTH (1 .. 200)" */
    private static void eachNumberOfAJoint() {
        Due.range("4: HEIGHT", Gardens::some, 0, 500, 5, (x, v) -> x.joint(true, 1, v, 1, 1), x -> x.jointOf(5, 0));
        Due.range("4: SIZE", Gardens::some, 1, 9, 5, (x, v) -> x.joint(true, 1, 0, v, 1), x -> x.jointOf(5, 1));
        Due.range("4: LENGTH", Gardens::some, 1, 200, 5, (x, v) -> x.joint(true, 1, 0, 1, v), x -> x.jointOf(5, 2));
        Due.range("4: HEIGHT from a JOINT", Gardens::some, 0, 500, 5, (x, v) -> x.joint(false, 4, v, 1, 1),
            x -> x.jointOf(5, 0));
        Due.range("4: SIZE from a JOINT", Gardens::some, 1, 9, 5, (x, v) -> x.joint(false, 4, 0, v, 1),
            x -> x.jointOf(5, 1));
        Due.range("4: LENGTH from a JOINT", Gardens::some, 1, 200, 5, (x, v) -> x.joint(false, 4, 0, 1, v),
            x -> x.jointOf(5, 2));
        FountainNet x = Gardens.some();
        Due.due("4: all least", x.joint(true, 0, 0, 1, 1), 5);
        Due.due("4: all most", x.joint(false, 5, 500, 9, 200), 6);
        Due.row("32: all least", 0, 8, w -> x.jointOf(5, w), 0, 1, 1, 0, -9, -9, 0, 0, 0);
        Due.row("32: all most", 0, 8, w -> x.jointOf(6, w), 500, 9, 200, 0, 5, -9, 0, 0, 0);
    }

    /** "from a TANK, or from a JOINT that is there already (of a lesser number)" */
    private static void fromWhatIsThereAlready() {
        Due.number("4: from a TANK", Gardens::some, 2, (x, i) -> x.joint(true, i, 0, 1, 1));
        Due.number("4: from a TANK, none told", FountainNet::new, 0, (x, i) -> x.joint(true, i, 0, 1, 1));
        Due.number("4: from a JOINT", Gardens::some, 5, (x, i) -> x.joint(false, i, 0, 1, 1));
        Due.number("4: from a JOINT, a TANK is told", () -> row(0), 0, (x, i) -> x.joint(false, i, 0, 1, 1));
        Due.number("4: from a JOINT, none told", FountainNet::new, 0, (x, i) -> x.joint(false, i, 0, 1, 1));
        FountainNet x = Gardens.full();
        Due.row("32: FEEDER", 0, 5, j -> x.jointOf(j, 3), 0, 1, 2, 3, 0, 1);
        Due.row("32: the JOINT ahead", 0, 5, j -> x.jointOf(j, 4), -9, -9, -9, -9, 0, 1);
        Due.due("32: FEEDER of the last", x.jointOf(29, 3), 1);
    }

    /** "FEEDER: the TANK from which a JOINT comes." */
    private static void feeder() {
        FountainNet x = new FountainNet();
        for (int i = 0; i < 4; i++) {
            x.tank(100 + 50 * i, 10, 6, 0);
        }
        x.joint(true, 3, 0, 9, 1);
        x.joint(true, 0, 0, 9, 1);
        x.joint(false, 0, 0, 9, 1);
        x.joint(false, 1, 0, 9, 1);
        x.joint(false, 2, 0, 9, 1);
        x.joint(true, 2, 0, 9, 1);
        x.joint(false, 3, 0, 9, 1);
        Due.row("32: FEEDER", 0, 6, j -> x.jointOf(j, 3), 3, 0, 3, 0, 3, 2, 0);
        Due.row("10: HEAD by the FEEDER's LEVEL", 0, 6, x::head, 256, 106, 256, 106, 256, 206, 106);
        x.set(3, 1, 0);
        Due.row("10: HEAD, the last TANK has no WATER", 0, 6, x::head, 0, 106, 0, 106, 0, 206, 106);
        x.leak(4, 7);
        x.leak(6, 5);
        Due.row("31: FLOW out of each TANK", 0, 3, i -> x.tankOf(i, 5), 5, 0, 0, 7);
    }

    /** "JOINTS have numbers from 0 on (30 at most)" */
    private static void thirtyAtMost() {
        Due.taken("4: the first", () -> row(0), x -> x.joint(true, 0, 0, 1, 1), 0);
        Due.taken("4: the last", () -> row(29), x -> x.joint(false, 28, 0, 1, 1), 29);
        Due.taken("4: the last, from a TANK", () -> row(29), x -> x.joint(true, 0, 0, 1, 1), 29);
        Due.refused("4: a 31st", () -> row(30), x -> x.joint(false, 29, 0, 1, 1), -6);
        Due.refused("4: a 31st, from a TANK", () -> row(30), x -> x.joint(true, 0, 0, 1, 1), -6);
        Due.refused("4: a 31st of a full garden", Gardens::full, x -> x.joint(true, 3, 500, 9, 200), -6);
    }

    /** "-3 the PIPE ahead is EMPTY" */
    private static void pipeAheadEmpty() {
        Due.refused("4: from an EMPTY one", Gardens::some, x -> x.joint(false, 3, 0, 1, 1), -3);
        Due.taken("4: from the one ahead of it", Gardens::some, x -> x.joint(false, 2, 0, 1, 1), 5);
        Due.taken("4: from its TANK", Gardens::some, x -> x.joint(true, 1, 0, 1, 1), 5);
        FountainNet x = Gardens.some();
        x.fill(3);
        Due.due("4: from one that is FILLED", x.joint(false, 3, 0, 1, 1), 5);
        Due.due("4: it isn't EMPTY", x.jointOf(5, 6), 0);
        FountainNet y = row(1);
        y.empty(0);
        Due.due("4: from a TANK beside an EMPTY one", y.joint(true, 0, 0, 1, 1), 1);
    }

    private static FountainNet fullRow() {
        FountainNet x = row(30);
        x.empty(29);
        return x;
    }

    /** "-1; -4; -6 (30, too); -3" */
    private static void jointRefusedInOrder() {
        int[] least = {0, 1, 1};
        int[] most = {500, 9, 200};
        for (int n = 0; n < 3; n++) {
            int[] low = least.clone();
            low[n]--;
            int[] high = least.clone();
            high[n] = most[n] + 1;
            Due.refused("4: NOBODY ahead of BELOW " + n, Gardens::some, x -> joint(x, 5, low), -1);
            Due.refused("4: NOBODY ahead of ROOM " + n, Gardens::some, x -> joint(x, 5, high), -1);
            Due.refused("4: BELOW " + n + " ahead of 30", PipeEdgesTest::fullRow, x -> joint(x, 0, low), -4);
            Due.refused("4: BELOW " + n + " ahead of STATE", Gardens::some, x -> joint(x, 3, low), -4);
            Due.refused("4: ROOM " + n + " ahead of STATE", Gardens::some, x -> joint(x, 3, high), -6);
            for (int m = 0; m < 3; m++) {
                if (m != n) {
                    int[] both = low.clone();
                    both[m] = most[m] + 1;
                    Due.refused("4: BELOW " + n + " ahead of ROOM " + m, Gardens::some, x -> joint(x, 0, both), -4);
                }
            }
        }
        Due.refused("4: no TANK ahead of BELOW", Gardens::some, x -> x.joint(true, 2, -1, 0, 0), -1);
        Due.refused("4: no TANK ahead of ROOM", Gardens::some, x -> x.joint(true, 2, 501, 10, 201), -1);
        Due.refused("4: NOBODY ahead of 30", PipeEdgesTest::fullRow, x -> joint(x, 30, least), -1);
        Due.refused("4: no TANK ahead of 30", PipeEdgesTest::fullRow, x -> x.joint(true, 1, 0, 1, 1), -1);
        Due.refused("4: 30 ahead of STATE", PipeEdgesTest::fullRow, x -> joint(x, 29, least), -6);
    }

    private static int joint(FountainNet x, int from, int[] told) {
        return x.joint(false, from, told[0], told[1], told[2]);
    }

    /** "SIZE of a JOINT's PIPE: what it was. -1; -4; -6." */
    private static void pipe() {
        Due.range("7: SIZE", Gardens::some, 1, 9, 3, (x, v) -> x.pipe(1, v), x -> x.jointOf(1, 1));
        Due.range("7: SIZE of an EMPTY one", Gardens::some, 1, 9, 4, (x, v) -> x.pipe(3, v), x -> x.jointOf(3, 1));
        Due.number("7: pipe", Gardens::some, 5, (x, i) -> x.pipe(i, 2));
        Due.number("7: pipe, none told", () -> row(0), 0, (x, i) -> x.pipe(i, 2));
        Due.number("7: pipe, all told", Gardens::full, 30, (x, i) -> x.pipe(i, 2));
        Due.refused("7: NOBODY ahead of BELOW", Gardens::some, x -> x.pipe(5, 0), -1);
        Due.refused("7: NOBODY ahead of ROOM", Gardens::some, x -> x.pipe(-1, 10), -1);
        FountainNet x = Gardens.some();
        x.pipe(1, 9);
        Due.due("7: what it was, then", x.pipe(1, 1), 9);
        Due.row("7: the others' SIZE", 2, 4, j -> x.jointOf(j, 1), 1, 4, 2);
    }

    /** "a LEAK of a PIPE (0 .. 60; 0 at first)"; "what it was. -1; -4; -6." */
    private static void leak() {
        Due.range("8: LEAK", Gardens::some, 0, 60, 1, (x, v) -> x.leak(2, v), x -> x.jointOf(2, 7));
        Due.range("8: LEAK of an EMPTY one", Gardens::some, 0, 60, 2, (x, v) -> x.leak(3, v), x -> x.jointOf(3, 7));
        Due.taken("8: 0 at first", Gardens::some, x -> x.leak(4, 60), 0);
        Due.due("8: 0 at first, told", row(1).jointOf(0, 7), 0);
        Due.number("8: leak", Gardens::some, 5, (x, i) -> x.leak(i, 3));
        Due.number("8: leak, none told", () -> row(0), 0, (x, i) -> x.leak(i, 3));
        Due.number("8: leak, all told", Gardens::full, 30, (x, i) -> x.leak(i, 3));
        Due.refused("8: NOBODY ahead of BELOW", Gardens::some, x -> x.leak(5, -1), -1);
        Due.refused("8: NOBODY ahead of ROOM", Gardens::some, x -> x.leak(-1, 61), -1);
    }

    /** JOINTS 1 and 2 from 0, 3 from 1, 4 from 3, 5 from the TANK. */
    private static FountainNet tree() {
        FountainNet x = row(1);
        int[] from = {0, 0, 1, 3};
        for (int j : from) {
            x.joint(false, j, 6, 9, 1);
        }
        x.joint(true, 0, 6, 9, 1);
        return x;
    }

    /** "the sum of DRAWS of all JETS that PLAY at that JOINT, and at JOINTS that come from it, and theirs" */
    private static void flowOfJets() {
        FountainNet x = tree();
        for (int j = 0; j < 6; j++) {
            x.jet(j, 1 << j);
        }
        Due.row("9: all SHUT, flow", 0, 5, x::flow, 0, 0, 0, 0, 0, 0);
        for (int i = 0; i < 6; i++) {
            x.play(i, true);
        }
        Due.row("9: all PLAY, flow", 0, 5, x::flow, 31, 26, 4, 24, 16, 32);
        x.play(3, false);
        Due.row("9: one is SHUT, flow", 0, 5, x::flow, 23, 18, 4, 16, 16, 32);
    }

    /** "a LEAK of a PIPE flows in it and in all PIPES ahead of it" */
    private static void flowOfLeaks() {
        FountainNet x = tree();
        x.leak(3, 60);
        Due.row("9: LEAK of 3, flow", 0, 5, x::flow, 60, 60, 0, 60, 0, 0);
        x.leak(0, 1);
        Due.row("9: LEAK of 0, flow", 0, 5, x::flow, 61, 60, 0, 60, 0, 0);
        x.leak(4, 5);
        Due.row("9: LEAK of 4, flow", 0, 5, x::flow, 66, 65, 0, 65, 5, 0);
        x.leak(3, 0);
        Due.row("9: LEAK of 3 no more, flow", 0, 5, x::flow, 6, 5, 0, 5, 5, 0);
        Due.due("31: FLOW out of the TANK", x.tankOf(0, 5), 6);
    }

    /** "(none of one that is EMPTY, or behind such a one)"; "(0 if it, or one ahead, is EMPTY)" */
    private static void flowOfEmptyOnes() {
        FountainNet x = tree();
        for (int j = 0; j < 6; j++) {
            x.leak(j, 1 << j);
        }
        x.empty(4);
        Due.row("9: 4 is EMPTY, flow", 0, 5, x::flow, 15, 10, 4, 8, 0, 32);
        x.empty(3);
        Due.row("9: 3 is, too, flow", 0, 5, x::flow, 7, 2, 4, 0, 0, 32);
        x.empty(1);
        x.empty(2);
        x.empty(0);
        Due.row("9: all behind 0 are, flow", 0, 5, x::flow, 0, 0, 0, 0, 0, 32);
        Due.row("32: their LOSS", 0, 4, j -> x.jointOf(j, 8), 0, 0, 0, 0, 0);
        Due.due("31: FLOW out of the TANK", x.tankOf(0, 5), 32);
    }

    /** "FLOW times FLOW times LENGTH by (100 times SIZE times SIZE), cut" */
    private static void lossIsCut() {
        int[][] due = {
            // FLOW, LENGTH, SIZE, LOSS
            {0, 200, 1, 0}, {1, 1, 1, 0}, {1, 99, 1, 0}, {1, 100, 1, 1}, {1, 199, 1, 1}, {1, 200, 1, 2},
            {10, 1, 1, 1}, {9, 1, 1, 0}, {20, 1, 2, 1}, {19, 1, 2, 0}, {60, 9, 9, 4}, {60, 2, 9, 0}, {60, 200, 1, 7200},
            {45, 4, 9, 1}, {44, 4, 9, 0}, {60, 200, 9, 88},
        };
        for (int[] told : due) {
            FountainNet x = row(0);
            x.joint(true, 0, 0, told[2], told[1]);
            x.leak(0, told[0]);
            String name = "FLOW " + told[0] + ", LENGTH " + told[1] + ", SIZE " + told[2];
            Due.due("32: LOSS of " + name, x.jointOf(0, 8), told[3]);
            Due.due("10: HEAD of " + name, x.head(0), 106 - told[3]);
        }
    }

    /** "LEVEL of the FEEDER, less LOSSES of all PIPES to it, less its HEIGHT" (may be below 0) */
    private static void head() {
        int[] heights = {0, 105, 106, 107, 500};
        FountainNet x = row(0);
        for (int j = 0; j < heights.length; j++) {
            x.joint(true, 0, heights[j], 9, 1);
        }
        Due.row("10: HEAD at heights", 0, 4, x::head, 106, 1, 0, -1, -394);
        FountainNet y = row(0);
        y.joint(true, 0, 50, 1, 100);
        y.joint(false, 0, 90, 1, 100);
        y.joint(false, 1, 0, 1, 100);
        y.leak(2, 2);
        // each LOSS is 4; the HEIGHTS of JOINTS ahead don't count
        Due.row("10: HEAD behind LOSSES", 0, 2, y::head, 52, 8, 94);
        y.leak(0, 60);
        Due.row("10: HEAD behind a great LOSS", 0, 2, y::head, 106 - 3844 - 50, 106 - 3848 - 90, 106 - 3852);
    }

    /** "DRY ones have 0: if the WATER of the FEEDER is 0" */
    private static void dryWithoutWater() {
        FountainNet x = Gardens.some();
        x.fill(3);
        x.set(0, 1, 0);
        x.set(1, 1, 1);
        // LEVELS 100 and 60; LOSSES: 12 * 12 * 50 by 400 is 18, 7 * 7 * 40 by 900 is 2, else 0
        Due.row("10: TANK 0 has no WATER, TANK 1 has one", 0, 3, x::head, 0, 0, 55, 60);
        x.set(0, 1, 1);
        x.set(1, 1, 0);
        Due.row("10: TANK 1 has no WATER, TANK 0 has one", 0, 3, x::head, 72, 60, 0, 0);
        x.set(0, 1, 0);
        x.leak(0, 60);
        Due.due("10: DRY, not below 0", x.head(0), 0);
    }

    /** "or a PIPE to it is EMPTY" */
    private static void dryBehindEmptyOnes() {
        FountainNet x = row(3);
        Due.row("10: none is EMPTY", 0, 2, x::head, 100, 100, 100);
        x.empty(2);
        Due.row("10: the last is", 0, 2, x::head, 100, 100, 0);
        x.empty(1);
        Due.row("10: the one ahead is, too", 0, 2, x::head, 100, 0, 0);
        x.empty(0);
        Due.row("10: all are", 0, 2, x::head, 0, 0, 0);
        x.fill(0);
        Due.row("10: the first is FILLED", 0, 2, x::head, 100, 0, 0);
    }

    /** flow and head: "-1", of head "as told" */
    private static void looksRefused() {
        Due.number("9: flow", Gardens::some, 5, (x, i) -> x.flow(i));
        Due.number("9: flow, none told", () -> row(0), 0, (x, i) -> x.flow(i));
        Due.number("9: flow, all told", Gardens::full, 30, (x, i) -> x.flow(i));
        Due.number("10: head", Gardens::some, 5, (x, i) -> x.head(i), 1000000001);
        Due.number("10: head, none told", () -> row(0), 0, (x, i) -> x.head(i), 1000000001);
        Due.number("10: head, all told", Gardens::full, 30, (x, i) -> x.head(i), 1000000001);
        FountainNet x = new FountainNet();
        x.tank(0, 1, 1, 0);
        x.joint(true, 0, 2, 9, 1);
        Due.due("10: HEAD -1 is no refusal", x.head(0), -1);
        Due.due("33: nor is it counted", x.count(11), 0);
    }

    /** "4 the JOINT ahead (-9), 5 the JET at it (-9), 6 1 if its PIPE is EMPTY"; "-1; -2." */
    private static void jointOf() {
        FountainNet x = Gardens.some();
        Due.row("32: the JOINT ahead", 0, 4, j -> x.jointOf(j, 4), -9, 0, -9, 2, 1);
        Due.row("32: the JET", 0, 4, j -> x.jointOf(j, 5), 0, 1, -9, 2, -9);
        Due.row("32: EMPTY", 0, 4, j -> x.jointOf(j, 6), 0, 0, 0, 1, 0);
        Due.row("32: LEAK", 0, 4, j -> x.jointOf(j, 7), 0, 0, 1, 2, 0);
        Due.due("32: the last JET", Gardens.full().jointOf(29, 5), 23);
        Due.number("32: jointOf", Gardens::some, 5, (y, i) -> y.jointOf(i, 0));
        Due.number("32: jointOf, none told", () -> row(0), 0, (y, i) -> y.jointOf(i, 8));
        Due.number("32: jointOf, all told", Gardens::full, 30, (y, i) -> y.jointOf(i, 8));
        Due.whats("32: jointOf", Gardens::some, 8, (y, w) -> y.jointOf(0, w));
        Due.refused("32: NOBODY ahead of OTHER", Gardens::some, y -> y.jointOf(5, 9), -1);
        Due.refused("32: NOBODY ahead of OTHER, both far off", Gardens::some, y -> y.jointOf(MIN, MAX), -1);
    }
}
