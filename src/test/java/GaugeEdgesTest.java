/** Promises 23 to 27, and the terms of GAUGES: a test for each sentence that names an edge. */
public final class GaugeEdgesTest {
    private static final int MIN = Integer.MIN_VALUE;
    private static final int MAX = Integer.MAX_VALUE;

    public static void main(String[] args) {
        gauge();
        gaugeRefusedInOrder();
        tol();
        noGaugeIsRead();
        eachAnswer();
        differsByTolAtMost();
        allThatAreRead();
        noneAheadOfOne();
        justTheseLeaks();
        allOthersAreNothing();
        shutAndDryOnes();
        oneLeakOf1To60();
        firstPipeLeastLeak();
        oneAheadOfTwo();
        twoLeaksOf1To12();
        firstTwoPipes();
        leastLeaksOfTwo();
        noLeaksDo();
        explainedRefused();
        rivals();
        rivalsOfLeaks();
        ofAllThatThereMayBe();
        Due.end("GaugeEdgesTest");
    }

    /** A star with GAUGES read in the order of JETS as if these LEAKS were; -1: not read. */
    private static FountainNet leaking(int joints, int... leaks) {
        FountainNet x = Gardens.star(joints, 300);
        for (int i = 0; i < leaks.length; i++) {
            x.gauge(i, leaks[i] < 0 ? -1 : Gardens.starRise(leaks[i]));
        }
        return x;
    }

    private static void told(String name, FountainNet x, int explain, int... explained) {
        Due.due(name + ", explain()", x.explain(), explain);
        Due.row(name + ", explained", 0, 3, x::explained, explained);
    }

    private static void none(String name, FountainNet x) {
        told(name, x, 0, -9, -9, -9, -9);
    }

    private static void noSuch(String name, FountainNet x) {
        told(name, x, 3, -9, -9, -9, -9);
    }

    /** "a JET's RISE as read (-1: not read)"; "what it was (-1: not)", 0 .. 500 */
    private static void gauge() {
        Due.rangeAsTold("23: GAUGE", Gardens::some, -1, 500, 76, (x, v) -> x.gauge(0, v), x -> x.gauge(0, 9));
        Due.rangeAsTold("23: GAUGE not read yet", Gardens::some, -1, 500, -1, (x, v) -> x.gauge(2, v),
            x -> x.gauge(2, 9));
        Due.taken("23: GAUGE 0", Gardens::some, x -> x.gauge(1, 0), 70);
        FountainNet x = Gardens.star(2, 300);
        Due.due("23: not read at first", x.gauge(0, 0), -1);
        Due.due("23: 0 is a reading", x.gauge(0, 500), 0);
        Due.due("23: the other JET's", x.gauge(1, -1), -1);
        Due.due("23: what it was", x.gauge(0, -1), 500);
        Due.due("23: not read any more", x.gauge(0, -1), -1);
        Due.due("23: -1 is no refusal", x.count(11), 0);
    }

    /** "Refused as told: -1; -4 below -1; -6 above 500." */
    private static void gaugeRefusedInOrder() {
        Due.number("23: gauge", Gardens::some, 3, (x, i) -> x.gauge(i, 7), 1000000001);
        Due.number("23: gauge, none told", FountainNet::new, 0, (x, i) -> x.gauge(i, 7), 1000000001);
        Due.number("23: gauge, all told", Gardens::full, 24, (x, i) -> x.gauge(i, 7), 1000000001);
        Due.refused("23: NOBODY ahead of BELOW", Gardens::some, x -> x.gauge(3, -2), 1000000001);
        Due.refused("23: NOBODY ahead of ROOM", Gardens::some, x -> x.gauge(-1, 501), 1000000001);
        Due.refused("23: NOBODY ahead of all", Gardens::some, x -> x.gauge(MAX, MIN), 1000000001);
    }

    /** "TOL (0 .. 50; 0 at first)"; "what it was. -4; -6." */
    private static void tol() {
        Due.range("24: TOL", Gardens::some, 0, 50, 2, (x, v) -> x.tol(v), x -> x.tol(9));
        Due.range("24: TOL, none told", FountainNet::new, 0, 50, 0, (x, v) -> x.tol(v), x -> x.tol(9));
        Due.range("24: TOL, all told", Gardens::full, 0, 50, 1, (x, v) -> x.tol(v), x -> x.tol(9));
    }

    /** "4 no GAUGE is read"; "0 if no GAUGE is read" */
    private static void noGaugeIsRead() {
        FountainNet[] unread = {new FountainNet(), Gardens.star(0, 300), Gardens.star(2, 300), leaking(2, -1, -1)};
        for (FountainNet x : unread) {
            told("25: none is read", x, 4, -9, -9, -9, -9);
            Due.due("27: none is read", x.rivals(), 0);
        }
        FountainNet x = leaking(3, -1, -1, 4);
        told("25: the last is read", x, 1, 2, 4, -9, -9);
        x.gauge(2, -1);
        told("25: not any more", x, 4, -9, -9, -9, -9);
        Due.due("27: not any more", x.rivals(), 0);
        x.gauge(0, 0);
        Due.due("25: 0 is read", x.explain(), 1);
    }

    /** "0 NONE explains it; 1 ONE does; 2 TWO do; 3 no such"; "0, 1 the first JOINT, its LEAK; 2, 3 the second ones" */
    private static void eachAnswer() {
        told("25: NONE does", leaking(3, 0, 0, 0), 0, -9, -9, -9, -9);
        told("25: ONE does", leaking(3, 0, 7, 0), 1, 1, 7, -9, -9);
        told("25: TWO do", leaking(3, 0, 7, 5), 2, 1, 7, 2, 5);
        told("25: no such", leaking(3, 1, 7, 5), 3, -9, -9, -9, -9);
        told("25: none is read", leaking(3, -1, -1, -1), 4, -9, -9, -9, -9);
    }

    /** "each RISE differs by TOL at most" */
    private static void differsByTolAtMost() {
        for (int tol : new int[] {0, 1, 50}) {
            FountainNet x = Gardens.star(1, 300);
            x.play(0, false);
            // SHUT: no LEAK changes its RISE
            x.tol(tol);
            x.gauge(0, tol);
            none("25: SHUT, by TOL " + tol, x);
            Due.due("27: SHUT, by TOL " + tol, x.rivals(), 1);
            x.gauge(0, tol + 1);
            noSuch("25: SHUT, by more than TOL " + tol, x);
            Due.due("27: SHUT, by more than TOL " + tol, x.rivals(), 0);
            x.play(0, true);
            x.gauge(0, Gardens.starRise(0) + tol);
            none("25: read higher by TOL " + tol, x);
            x.gauge(0, Gardens.starRise(0) + tol + 1);
            noSuch("25: read higher by more than TOL " + tol, x);
            x.gauge(0, Gardens.starRise(0) - tol);
            none("25: read lower by TOL " + tol, x);
            x.gauge(0, Gardens.starRise(0) - tol - 1);
            Due.due("25: read lower by more than TOL " + tol, x.explain() == 0 ? 1 : 0, 0);
        }
        FountainNet y = Gardens.star(1, 300);
        y.gauge(0, Gardens.starRise(5) + 3);
        y.tol(2);
        noSuch("25: ONE by more than TOL", y);
        y.tol(3);
        told("25: ONE by TOL", y, 1, 0, 5, -9, -9);
    }

    /** "EXPLAINS all GAUGES that are read" */
    private static void allThatAreRead() {
        none("25: the others aren't read", leaking(3, 0, -1, -1));
        told("25: the first of two", leaking(2, 3, 0), 1, 0, 3, -9, -9);
        told("25: the second of two", leaking(2, 0, 3), 1, 1, 3, -9, -9);
        told("25: the last of three, too", leaking(3, 3, 0, 1), 2, 0, 3, 2, 1);
        FountainNet x = leaking(2, 0, 0);
        x.gauge(1, Gardens.starRise(0) + 1);
        noSuch("25: one of two is too high", x);
    }

    /** "NONE explains it if no LEAK does", whatever else would. */
    private static void noneAheadOfOne() {
        FountainNet x = leaking(2, 0);
        none("25: NONE", x);
        Due.due("27: the other PIPE would, too", x.rivals(), 1);
        x.tol(3);
        none("25: NONE, LEAK 1 of the first one would, too", x);
        Due.due("27: both PIPES would, too", x.rivals(), 2);
        x.tol(2);
        Due.due("27: TOL 2", x.rivals(), 1);
    }

    /** "with just these LEAKS (all others 0) and all else as it is" */
    private static void justTheseLeaks() {
        FountainNet x = leaking(2, 0, 0);
        x.leak(0, 60);
        x.leak(1, 60);
        none("25: LEAKS that are told don't count", x);
        Due.due("11: RISE with the LEAK told", x.rise(0), 0);
        x.gauge(1, Gardens.starRise(2));
        told("25: ONE aside of those told", x, 1, 1, 2, -9, -9);
        x.pipe(1, 2);
        Due.due("25: SIZE as it is", x.explain() == 1 ? x.explained(1) : 0, 5);
        x.pipe(1, 1);
        x.gauge(0, Gardens.starRise(1));
        told("25: TWO aside of those told", x, 2, 0, 1, 1, 2);
        Due.row("8: the LEAKS are as told", 0, 1, j -> x.jointOf(j, 7), 60, 60);
        Due.row("9: and flow", 0, 1, x::flow, 61, 61);
    }

    /** "(all others 0)": also those that were tried ahead of what explains it. LOSS is FLOW times FLOW, DRAW 5. */
    private static void allOthersAreNothing() {
        int[] leaks = {0, 0, 3, 4};
        FountainNet x = new FountainNet();
        x.tank(400, 10, 1, 0);
        for (int i = 0; i < leaks.length; i++) {
            x.joint(true, 0, 0, 1, 100);
            x.jet(i, 5);
            x.play(i, true);
            x.gauge(i, 9 * (401 - (5 + leaks[i]) * (5 + leaks[i])) / 10);
        }
        told("25: TWO behind others", x, 2, 2, 3, 3, 4);
        x.gauge(3, 9 * (401 - 25) / 10);
        told("25: ONE behind others", x, 1, 2, 3, -9, -9);
        Due.due("27: ONE behind others", x.rivals(), 1);
        x.gauge(2, 9 * (401 - 25) / 10);
        none("25: NONE behind others", x);
    }

    private static void shutAndDryOnes() {
        FountainNet x = leaking(2, 3, 0);
        x.play(1, false);
        noSuch("25: a SHUT one has no RISE", x);
        x.gauge(1, 0);
        told("25: as read", x, 1, 0, 3, -9, -9);
        x.set(0, 1, 0);
        noSuch("25: DRY ones have none", x);
        x.gauge(0, 0);
        none("25: DRY, as read", x);
        Due.due("27: DRY, as read", x.rivals(), 2);
    }

    /** LOSS is FLOW times FLOW by 10 (cut), LEVEL 401, DRAW 1. */
    private static FountainNet wide() {
        FountainNet x = new FountainNet();
        x.tank(400, 10, 1, 0);
        x.joint(true, 0, 0, 4, 160);
        x.jet(0, 1);
        x.play(0, true);
        return x;
    }

    /** "ONE: .. the least LEAK, 1 .. 60" */
    private static void oneLeakOf1To60() {
        FountainNet x = wide();
        // 60: 3721 by 10; 61: 3844 by 10; 59: 3600 by 10
        x.gauge(0, 9 * (401 - 372) / 10);
        told("25: LEAK 60", x, 1, 0, 60, -9, -9);
        Due.due("27: LEAK 60", x.rivals(), 1);
        x.gauge(0, 9 * (401 - 384) / 10);
        noSuch("25: LEAK 61", x);
        Due.due("27: LEAK 61", x.rivals(), 0);
        x.gauge(0, 9 * (401 - 360) / 10);
        told("25: LEAK 59", x, 1, 0, 59, -9, -9);
        told("25: LEAK 1", leaking(1, 1), 1, 0, 1, -9, -9);
        Due.due("27: LEAK 1", leaking(1, 1).rivals(), 1);
    }

    /** "the first PIPE (by JOINTS), and the least LEAK" */
    private static void firstPipeLeastLeak() {
        FountainNet x = new FountainNet();
        x.tank(300, 10, 1, 0);
        x.joint(true, 0, 0, 1, 25);
        x.joint(false, 0, 0, 1, 75);
        x.jet(1, 1);
        x.play(0, true);
        // LOSS 36: FLOW 12 in the first PIPE, 144 by 4; or FLOW 6 in both, 36 by 4 and 108 by 4
        x.gauge(0, 9 * (301 - 36) / 10);
        told("25: the first PIPE, though of a greater LEAK", x, 1, 0, 11, -9, -9);
        Due.due("27: both", x.rivals(), 2);
        FountainNet y = wide();
        y.gauge(0, 9 * 391 / 10);
        y.tol(5);
        // 391: by 5 from 386 to 395 by RISES 347 .. 356: LOSS 5 is FLOW 8
        told("25: the least LEAK", y, 1, 0, 7, -9, -9);
    }

    private static void oneAheadOfTwo() {
        FountainNet x = Gardens.star(3, 300);
        x.joint(false, 2, 0, 9, 1);
        x.jet(3, 1);
        x.play(3, true);
        // JETS 2 and 3 share PIPE 2; the last PIPE has no LOSS
        x.gauge(2, 9 * (301 - 25) / 10);
        told("25: ONE of the last PIPES", x, 1, 2, 3, -9, -9);
        Due.due("27: of both of them", x.rivals(), 2);
        x.gauge(0, Gardens.starRise(1));
        told("25: TWO", x, 2, 0, 1, 2, 3);
    }

    /** "TWO: .. 1 .. 12 each" */
    private static void twoLeaksOf1To12() {
        told("25: 1 and 1", leaking(2, 1, 1), 2, 0, 1, 1, 1);
        told("25: 12 and 12", leaking(2, 12, 12), 2, 0, 12, 1, 12);
        told("25: 1 and 12", leaking(2, 1, 12), 2, 0, 1, 1, 12);
        told("25: 12 and 1", leaking(2, 12, 1), 2, 0, 12, 1, 1);
        noSuch("25: 13 and 1", leaking(2, 13, 1));
        noSuch("25: 1 and 13", leaking(2, 1, 13));
        noSuch("25: 13 and 12", leaking(2, 13, 12));
        noSuch("25: 12 and 13", leaking(2, 12, 13));
        told("25: but 13 alone", leaking(2, 13, 0), 1, 0, 13, -9, -9);
        told("25: and the other's 13 alone", leaking(2, 0, 13), 1, 1, 13, -9, -9);
    }

    /** "the first two PIPES (the lesser JOINT first)" */
    private static void firstTwoPipes() {
        told("25: the first and the last", leaking(4, 2, 0, 0, 9), 2, 0, 2, 3, 9);
        told("25: the last two", leaking(4, 0, 0, 2, 9), 2, 2, 2, 3, 9);
        told("25: the last two, the greater LEAK first", leaking(4, 0, 0, 9, 2), 2, 2, 9, 3, 2);
        FountainNet x = Gardens.star(1, 300);
        // 1 and 2 in a row, and 3, 4 in a row; JETS at the ends
        x.joint(true, 0, 0, 1, 100);
        x.joint(false, 1, 0, 9, 1);
        x.joint(true, 0, 0, 1, 100);
        x.joint(false, 3, 0, 9, 1);
        x.jet(2, 1);
        x.jet(4, 1);
        x.play(1, true);
        x.play(2, true);
        x.gauge(1, Gardens.starRise(4));
        x.gauge(2, Gardens.starRise(3));
        told("25: 1 and 3 ahead of 1 and 4, 2 and 3, 2 and 4", x, 2, 1, 4, 3, 3);
        Due.due("27: none alone", x.rivals(), 0);
    }

    /** "the least LEAK of the first, then of the second" */
    private static void leastLeaksOfTwo() {
        FountainNet x = Gardens.star(0, 300);
        x.joint(true, 0, 0, 1, 100);
        x.joint(false, 0, 0, 1, 100);
        x.jet(0, 1);
        x.jet(1, 1);
        x.play(0, true);
        x.play(1, true);
        // PIPE 0 has FLOW 2 and both LEAKS, PIPE 1 FLOW 1 and its own
        x.gauge(0, 9 * (301 - 100) / 10);
        x.gauge(1, 9 * (301 - 100 - 16) / 10);
        told("25: 5 and 3 alone", x, 2, 0, 5, 1, 3);
        x.gauge(1, -1);
        told("25: one GAUGE, ONE alone", x, 1, 0, 8, -9, -9);
        FountainNet y = leaking(2, 5, 5);
        y.tol(12);
        // 252, 247, 238, 226, 213, ..: by 12 of 238 from 226 to 250; the LEAKS 4, 5, 6 are
        told("25: the least of both", y, 2, 0, 4, 1, 4);
    }

    private static void noLeaksDo() {
        noSuch("25: three LEAKS", leaking(3, 1, 1, 1));
        Due.due("27: three LEAKS", leaking(3, 1, 1, 1).rivals(), 0);
        FountainNet x = Gardens.star(1, 300);
        x.gauge(0, 500);
        noSuch("25: higher than it can be", x);
        FountainNet y = Gardens.star(0, 300);
        y.joint(true, 0, 0, 9, 1);
        y.jet(0, 1);
        y.play(0, true);
        y.gauge(0, 0);
        noSuch("25: lower than it can be", y);
    }

    /** "-2." */
    private static void explainedRefused() {
        Due.whats("26: explained", Gardens::some, 3, (x, w) -> x.explained(w));
        Due.whats("26: explained, none told", FountainNet::new, 3, (x, w) -> x.explained(w));
        Due.row("26: none told", 0, 3, new FountainNet()::explained, -9, -9, -9, -9);
        FountainNet x = leaking(2, 3, 4);
        Due.row("26: without explain()", 0, 3, x::explained, 0, 3, 1, 4);
        x.gauge(1, Gardens.starRise(0));
        Due.row("26: as it is now", 0, 3, x::explained, 0, 3, -9, -9);
    }

    /** "How many PIPES alone explain it (with some LEAK, 1 .. 60)" */
    private static void rivals() {
        FountainNet x = Gardens.star(0, 300);
        for (int j = 0; j < 30; j++) {
            x.joint(j == 0, Math.max(0, j - 1), 0, j == 0 ? 1 : 9, j == 0 ? 100 : 1);
        }
        x.jet(29, 1);
        x.play(0, true);
        x.gauge(0, Gardens.starRise(3));
        told("25: the first of all", x, 1, 0, 3, -9, -9);
        Due.due("27: all 30", x.rivals(), 30);
        x.empty(29);
        Due.due("27: the JET PLAYS, so it isn't EMPTY", x.rivals(), 30);
        Due.due("27: one of two", leaking(2, 4, 0).rivals(), 1);
        Due.due("27: TWO are none alone", leaking(2, 4, 4).rivals(), 0);
        Due.due("27: no PIPE can", leaking(1, -1).rivals(), 0);
    }

    private static void rivalsOfLeaks() {
        FountainNet x = wide();
        x.gauge(0, 9 * 401 / 10);
        // LEAK 1: 4 by 10, LEAK 2: 9 by 10: no LOSS yet
        none("25: NONE", x);
        Due.due("27: but LEAKS 1 and 2 would, too", x.rivals(), 1);
        none("25: NONE of a lesser SIZE", wideOfSize1(400));
        Due.due("27: LEAK 1 has LOSS 6", wideOfSize1(400).rivals(), 0);
        FountainNet y = Gardens.star(2, 300);
        y.play(1, false);
        y.empty(1);
        y.gauge(0, Gardens.starRise(0));
        Due.due("27: a LEAK of an EMPTY PIPE changes nothing", y.rivals(), 1);
        y.gauge(0, Gardens.starRise(1));
        Due.due("27: nor does it explain", y.rivals(), 1);
    }

    private static FountainNet wideOfSize1(int head) {
        FountainNet x = wide();
        x.pipe(0, 1);
        x.gauge(0, 9 * head / 10);
        return x;
    }

    private static void ofAllThatThereMayBe() {
        FountainNet x = Gardens.full();
        for (int i = 0; i < 24; i++) {
            x.gauge(i, -1);
        }
        x.leak(7, 0);
        x.tol(0);
        for (int i = 0; i < 24; i++) {
            x.gauge(i, Math.min(500, x.rise(i)));
        }
        none("25: all GAUGES are read as they are", x);
        x.leak(13, 60);
        x.gauge(23, 0);
        for (int i = 0; i < 23; i++) {
            x.gauge(i, Math.min(500, x.rise(i)));
        }
        told("25: ONE of 30", x, 1, 13, 60, -9, -9);
        Due.due("27: ONE of 30", x.rivals(), 1);
    }
}
