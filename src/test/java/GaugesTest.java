/** Promises 23 to 27: GAUGES and the LEAKS that EXPLAIN them. */
public final class GaugesTest {
    private static final int MIN = Integer.MIN_VALUE;
    private static final int MAX = Integer.MAX_VALUE;

    public static void main(String[] args) {
        gauge();
        tol();
        notRead();
        readAsNothing();
        none();
        one();
        oneOfMany();
        edgesOfOne();
        edgesOfTwo();
        firstOfTwo();
        noSuch();
        emptyPipes();
        explainedRefused();
        Due.end("GaugesTest");
    }

    private static FountainNet pair() {
        return Gardens.star(2, 300);
    }

    private static void read(FountainNet x, int... rises) {
        for (int i = 0; i < rises.length; i++) {
            x.gauge(i, rises[i]);
        }
    }

    private static void gauge() {
        FountainNet x = Gardens.star(1, 300);
        Due.due("23: gauge(0, 500)", x.gauge(0, 500), -1);
        Due.due("23: gauge(0, 0)", x.gauge(0, 0), 500);
        Due.due("23: gauge(0, -1)", x.gauge(0, -1), 0);
        Due.due("23: gauge(0, 7)", x.gauge(0, 7), -1);
        Due.refused("23: no JET", () -> Gardens.star(1, 9), y -> y.gauge(1, -2), 1000000001);
        Due.refused("23: JET -1", () -> Gardens.star(1, 9), y -> y.gauge(-1, 0), 1000000001);
        Due.refused("23: JET MAX", () -> Gardens.star(1, 9), y -> y.gauge(MAX, 0), 1000000001);
        Due.refused("23: -2", () -> Gardens.star(1, 9), y -> y.gauge(0, -2), 1000000004);
        Due.refused("23: MIN", () -> Gardens.star(1, 9), y -> y.gauge(0, MIN), 1000000004);
        Due.refused("23: 501", () -> Gardens.star(1, 9), y -> y.gauge(0, 501), 1000000006);
    }

    private static void tol() {
        FountainNet x = Gardens.star(1, 9);
        Due.due("24: tol(50)", x.tol(50), 0);
        Due.due("24: tol(0)", x.tol(0), 50);
        Due.refused("24: tol(-1)", () -> Gardens.star(1, 9), y -> y.tol(-1), -4);
        Due.refused("24: tol(51)", () -> Gardens.star(1, 9), y -> y.tol(51), -6);
        Due.refused("24: tol(MAX)", () -> Gardens.star(1, 9), y -> y.tol(MAX), -6);
    }

    private static void told(String name, FountainNet x, int explain, int... explained) {
        Due.due(name + ", explain()", x.explain(), explain);
        Due.row(name + ", explained", 0, 3, x::explained, explained);
    }

    private static void notRead() {
        FountainNet x = Gardens.star(3, 300);
        told("25: no GAUGE", x, 4, -9, -9, -9, -9);
        Due.due("27: no GAUGE", x.rivals(), 0);
        x.gauge(1, Gardens.starRise(16));
        Due.due("26: explained(1) alone", x.explained(1), 16);
        x.gauge(1, -1);
        told("25: read no more", x, 4, -9, -9, -9, -9);
        Due.due("27: read no more", x.rivals(), 0);
        told("25: nothing there", new FountainNet(), 4, -9, -9, -9, -9);
    }

    private static void readAsNothing() {
        FountainNet x = Gardens.star(1, 300);
        x.gauge(0, 0);
        told("25: 0 is read", x, 1, 0, 17, -9, -9);
    }

    private static void none() {
        FountainNet x = Gardens.star(2, 300);
        x.leak(0, 40);
        // LEVEL 301, less 1 is 300: 270; the LEAK that is told doesn't count
        x.gauge(0, 270);
        told("25: NONE", x, 0, -9, -9, -9, -9);
        Due.due("27: but the other PIPE could leak", x.rivals(), 1);
        Due.due("25: the LEAK is still told", x.flow(0), 41);
        x.gauge(0, 271);
        told("25: none such", x, 3, -9, -9, -9, -9);
        x.tol(1);
        told("25: TOL 1", x, 0, -9, -9, -9, -9);
        x.gauge(0, 269);
        told("25: TOL 1 below", x, 0, -9, -9, -9, -9);
        x.play(0, false);
        x.gauge(0, 1);
        told("25: SHUT", x, 0, -9, -9, -9, -9);
        x.gauge(0, 2);
        told("25: SHUT, not explained", x, 3, -9, -9, -9, -9);
        Due.due("27: SHUT, not explained", x.rivals(), 0);
    }

    private static void one() {
        FountainNet x = Gardens.star(3, 300);
        // 301 less 6 times 6: 265 by 9 tenths
        x.gauge(1, 238);
        told("25: ONE", x, 1, 1, 5, -9, -9);
        Due.due("27: ONE", x.rivals(), 1);
        x.gauge(0, 270);
        x.gauge(2, 270);
        told("25: ONE, all read", x, 1, 1, 5, -9, -9);
        x.gauge(2, 269);
        Due.due("25: no more", x.explain(), 3);
        x.tol(1);
        told("25: with TOL", x, 1, 1, 5, -9, -9);
        x.gauge(1, 245);
        x.tol(8);
        // 246 by 4, 253 is by 3: 301 less 16 is 285: 256
        told("25: the least LEAK", x, 1, 1, 4, -9, -9);
    }

    private static void oneOfMany() {
        FountainNet x = new FountainNet();
        x.tank(300, 10, 1, 0);
        x.joint(true, 0, 0, 9, 1);
        x.joint(false, 0, 0, 1, 100);
        x.joint(false, 1, 0, 9, 1);
        x.joint(false, 2, 0, 9, 1);
        x.joint(true, 0, 0, 1, 1);
        x.jet(3, 1);
        x.play(0, true);
        x.gauge(0, 238);
        told("25: the first of several", x, 1, 1, 5, -9, -9);
        Due.due("27: of the PIPE and two behind it", x.rivals(), 3);
        x.gauge(0, 270);
        told("25: NONE", x, 0, -9, -9, -9, -9);
        Due.due("27: of a PIPE without LOSS, and of one aside", x.rivals(), 2);
    }

    private static void edgesOfOne() {
        FountainNet x = new FountainNet();
        x.tank(400, 10, 1, 0);
        x.joint(true, 0, 0, 4, 160);
        x.jet(0, 1);
        x.play(0, true);
        // LOSS: FLOW times FLOW by 10; 61 * 61 is 372, 60 * 60 is 360
        x.gauge(0, 9 * 29 / 10);
        told("25: LEAK 60", x, 1, 0, 60, -9, -9);
        x.gauge(0, 9 * (401 - 384) / 10);
        told("25: 61 is too much", x, 3, -9, -9, -9, -9);
        Due.due("27: 61 is too much", x.rivals(), 0);
        x.pipe(0, 1);
        // LOSS by 1: FLOW times FLOW times 8 by 5; with LEAK 1 it is 6
        x.gauge(0, 9 * 395 / 10);
        told("25: LEAK 1", x, 1, 0, 1, -9, -9);
    }

    private static void edgesOfTwo() {
        FountainNet x = pair();
        read(x, Gardens.starRise(12), Gardens.starRise(12));
        told("25: TWO of 12", x, 2, 0, 12, 1, 12);
        read(x, Gardens.starRise(13), Gardens.starRise(12));
        told("25: 13 is too much", x, 3, -9, -9, -9, -9);
        read(x, Gardens.starRise(12), Gardens.starRise(13));
        told("25: 13 of the other is too much", x, 3, -9, -9, -9, -9);
        read(x, Gardens.starRise(1), Gardens.starRise(12));
        told("25: 1 and 12", x, 2, 0, 1, 1, 12);
        read(x, Gardens.starRise(12), Gardens.starRise(1));
        told("25: 12 and 1", x, 2, 0, 12, 1, 1);
        read(x, Gardens.starRise(1), Gardens.starRise(1));
        told("25: 1 and 1", x, 2, 0, 1, 1, 1);
        Due.due("27: none alone", x.rivals(), 0);
    }

    private static void firstOfTwo() {
        FountainNet x = Gardens.star(30, 300);
        x.gauge(22, Gardens.starRise(3));
        x.gauge(23, Gardens.starRise(7));
        x.gauge(3, Gardens.starRise(0));
        told("25: the last JETS' JOINTS", x, 2, 22, 3, 23, 7);
        Due.due("27: none alone", x.rivals(), 0);
        FountainNet y = new FountainNet();
        y.tank(300, 10, 1, 0);
        y.joint(true, 0, 0, 1, 100);
        y.joint(false, 0, 0, 9, 1);
        y.joint(true, 0, 0, 1, 100);
        y.joint(false, 2, 0, 9, 1);
        y.jet(1, 1);
        y.jet(3, 1);
        y.play(0, true);
        y.play(1, true);
        read(y, Gardens.starRise(5), Gardens.starRise(6));
        told("25: the first of four pairs", y, 2, 0, 5, 2, 6);
        FountainNet z = new FountainNet();
        z.tank(400, 10, 1, 0);
        z.joint(true, 0, 0, 1, 100);
        z.joint(false, 0, 0, 9, 1);
        z.jet(1, 1);
        z.play(0, true);
        z.joint(true, 0, 0, 1, 100);
        z.jet(2, 1);
        z.gauge(1, 0);
        z.gauge(0, 9 * (401 - 225) / 10);
        told("25: ONE goes ahead of TWO", z, 1, 0, 14, -9, -9);
    }

    private static void noSuch() {
        FountainNet x = Gardens.star(3, 300);
        read(x, Gardens.starRise(3), Gardens.starRise(4), Gardens.starRise(5));
        told("25: three LEAKS", x, 3, -9, -9, -9, -9);
        Due.due("27: three LEAKS", x.rivals(), 0);
        x.tol(50);
        told("25: TOL 50", x, 0, -9, -9, -9, -9);
        Due.due("27: TOL 50", x.rivals(), 3);
    }

    private static void emptyPipes() {
        FountainNet x = Gardens.star(2, 300);
        x.joint(true, 0, 0, 1, 100);
        x.empty(2);
        read(x, Gardens.starRise(0), Gardens.starRise(0));
        Due.due("27: a LEAK of an EMPTY PIPE changes nothing", x.rivals(), 1);
        read(x, Gardens.starRise(0), Gardens.starRise(2));
        told("25: ONE beside an EMPTY PIPE", x, 1, 1, 2, -9, -9);
        x.set(0, 1, 0);
        told("25: no WATER", x, 3, -9, -9, -9, -9);
        read(x, 0, 0);
        told("25: no WATER, no RISE", x, 0, -9, -9, -9, -9);
        Due.due("27: no WATER, no RISE", x.rivals(), 3);
    }

    private static void explainedRefused() {
        Due.refused("26: what 4", GaugesTest::pair, x -> x.explained(4), -2);
        Due.refused("26: what -1", GaugesTest::pair, x -> x.explained(-1), -2);
        Due.refused("26: what MIN", GaugesTest::pair, x -> x.explained(MIN), -2);
    }
}
