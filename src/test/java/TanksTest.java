import java.util.function.Supplier;

/** Promises 1, 2, 3, 13, 14 and 31: TANKS and MINUTES. */
public final class TanksTest {
    private static final int MIN = Integer.MIN_VALUE;
    private static final int MAX = Integer.MAX_VALUE;

    public static void main(String[] args) {
        newObject();
        tank();
        tankRefused();
        set();
        minutes();
        minutesRefused();
        springAndLack();
        severalPipes();
        lasts();
        tankOf();
        Due.end("TanksTest");
    }

    private static FountainNet one() {
        FountainNet x = new FountainNet();
        x.tank(100, 10, 20, 3);
        return x;
    }

    /** A TANK with a PIPE of a JET that draws so much. */
    private static FountainNet drawn(int area, int depth, int spring, int draw) {
        FountainNet x = new FountainNet();
        x.tank(100, area, depth, spring);
        x.joint(true, 0, 10, 9, 1);
        x.jet(0, draw);
        x.play(0, true);
        return x;
    }

    private static void newObject() {
        FountainNet x = new FountainNet();
        Due.row("1: count", -1, 17, x::count, -9, 0, 0, 0, 0, 0, 0, 0, -9, -9, -9, -9, 0, 0, 0, 0, 0, 0, -9);
        Due.due("1: pace(5)", x.pace(5), 1);
        Due.due("1: tol(5)", x.tol(5), 0);
        Due.due("1: tasks()", x.tasks(), 0);
        Due.due("1: minutes(1)", x.minutes(1), 1);
    }

    private static void tank() {
        FountainNet x = new FountainNet();
        Due.due("2: tank(0, 1, 1, 0)", x.tank(0, 1, 1, 0), 0);
        Due.due("2: tank(500, 1000, 60, 500)", x.tank(500, 1000, 60, 500), 1);
        Due.due("2: tank(7, 8, 9, 10)", x.tank(7, 8, 9, 10), 2);
        Due.due("2: tank(1, 1, 1, 1)", x.tank(1, 1, 1, 1), 3);
        Due.due("2: a fifth", x.tank(1, 1, 1, 1), -6);
        Due.due("2: a fifth, too low", x.tank(1, 1, 0, 1), -4);
        Due.row("2: of the least", 0, 5, w -> x.tankOf(0, w), 1, 1, 0, 0, 0, 0);
        Due.row("2: of the greatest", 0, 5, w -> x.tankOf(1, w), 560, 60000, 500, 0, 0, 0);
        Due.row("2: of another", 0, 5, w -> x.tankOf(2, w), 16, 72, 10, 0, 0, 0);
        Due.due("2: count(1)", x.count(1), 4);
        Due.due("2: count(14)", x.count(14), 1);
        Due.due("2: count(16)", x.count(16), 1);
    }

    private static void tankRefused() {
        Supplier<FountainNet> made = FountainNet::new;
        Due.refused("2: floor -1", made, x -> x.tank(-1, 1, 1, 0), -4);
        Due.refused("2: area 0", made, x -> x.tank(0, 0, 1, 0), -4);
        Due.refused("2: depth 0", made, x -> x.tank(0, 1, 0, 0), -4);
        Due.refused("2: spring -1", made, x -> x.tank(0, 1, 1, -1), -4);
        Due.refused("2: floor 501", made, x -> x.tank(501, 1, 1, 0), -6);
        Due.refused("2: area 1001", made, x -> x.tank(0, 1001, 1, 0), -6);
        Due.refused("2: depth 61", made, x -> x.tank(0, 1, 61, 0), -6);
        Due.refused("2: spring 501", made, x -> x.tank(0, 1, 1, 501), -6);
        Due.refused("2: too high, then too low", made, x -> x.tank(501, 1, 1, -1), -4);
        Due.refused("2: all least", made, x -> x.tank(MIN, MIN, MIN, MIN), -4);
        Due.refused("2: all greatest", made, x -> x.tank(MAX, MAX, MAX, MAX), -6);
    }

    private static void set() {
        FountainNet x = one();
        Due.due("3: set(0, 0, 500)", x.set(0, 0, 500), 3);
        Due.due("3: set(0, 0, 0)", x.set(0, 0, 0), 500);
        Due.due("3: tankOf(0, 2)", x.tankOf(0, 2), 0);
        Due.due("3: set(0, 1, 0)", x.set(0, 1, 0), 200);
        Due.due("3: tankOf(0, 0)", x.tankOf(0, 0), 100);
        Due.due("3: set(0, 1, 200)", x.set(0, 1, 200), 0);
        Due.due("3: set(0, 1, 19)", x.set(0, 1, 19), 200);
        Due.due("3: tankOf(0, 0)", x.tankOf(0, 0), 101);
        Due.due("3: tankOf(0, 1)", x.tankOf(0, 1), 19);
        Due.refused("3: no TANK", TanksTest::one, y -> y.set(1, 0, 0), -1);
        Due.refused("3: TANK -1", TanksTest::one, y -> y.set(-1, 9, -1), -1);
        Due.refused("3: TANK MIN", TanksTest::one, y -> y.set(MIN, 0, 0), -1);
        Due.refused("3: TANK MAX", TanksTest::one, y -> y.set(MAX, 0, 0), -1);
        Due.refused("3: what 2", TanksTest::one, y -> y.set(0, 2, -1), -2);
        Due.refused("3: what -1", TanksTest::one, y -> y.set(0, -1, 1), -2);
        Due.refused("3: SPRING -1", TanksTest::one, y -> y.set(0, 0, -1), -4);
        Due.refused("3: WATER -1", TanksTest::one, y -> y.set(0, 1, -1), -4);
        Due.refused("3: SPRING 501", TanksTest::one, y -> y.set(0, 0, 501), -6);
        Due.refused("3: WATER 201", TanksTest::one, y -> y.set(0, 1, 201), -6);
    }

    private static void minutes() {
        FountainNet x = new FountainNet();
        Due.due("13: minutes(1)", x.minutes(1), 1);
        Due.due("13: minutes(1438)", x.minutes(1438), 1439);
        Due.due("13: minutes(2)", x.minutes(2), -6);
        Due.due("13: minutes(1)", x.minutes(1), 1440);
        Due.due("13: minutes(1)", x.minutes(1), -6);
        Due.due("13: count(0)", x.count(0), 1440);
        FountainNet y = one();
        Due.due("13: minutes(1440)", y.minutes(1440), 1440);
        Due.due("13: all that sprang is SPILLED", y.tankOf(0, 3), 3 * 1440);
        Due.due("13: and it is full", y.tankOf(0, 1), 200);
    }

    private static void minutesRefused() {
        Due.refused("13: minutes(0)", TanksTest::one, x -> x.minutes(0), -4);
        Due.refused("13: minutes(-5)", TanksTest::one, x -> x.minutes(-5), -4);
        Due.refused("13: minutes(MIN)", TanksTest::one, x -> x.minutes(MIN), -4);
        Due.refused("13: minutes(1441)", TanksTest::one, x -> x.minutes(1441), -6);
        Due.refused("13: minutes(MAX)", () -> later(one(), 7), x -> x.minutes(MAX), -6);
    }

    private static FountainNet later(FountainNet x, int n) {
        x.minutes(n);
        return x;
    }

    private static void springAndLack() {
        FountainNet x = drawn(10, 2, 7, 12);
        Due.due("13: one", x.minutes(1), 1);
        // 20 and 7, to 20: 7 SPILLED; less 12
        Due.row("13: behind one", 0, 5, w -> x.tankOf(0, w), 100, 8, 7, 7, 0, 12);
        x.minutes(1);
        Due.row("13: behind two", 0, 5, w -> x.tankOf(0, w), 100, 3, 7, 7, 0, 12);
        x.minutes(1);
        Due.row("13: 10 of 12", 0, 5, w -> x.tankOf(0, w), 100, 0, 7, 7, 2, 12);
        x.minutes(2);
        Due.row("13: 7 of 12, twice", 0, 5, w -> x.tankOf(0, w), 100, 0, 7, 7, 12, 12);
        FountainNet y = drawn(12, 1, 0, 12);
        y.minutes(1);
        Due.row("13: just so much", 0, 5, w -> y.tankOf(0, w), 100, 0, 0, 0, 0, 12);
    }

    private static void severalPipes() {
        FountainNet x = new FountainNet();
        x.tank(50, 100, 1, 0);
        x.tank(60, 100, 1, 0);
        x.joint(true, 0, 0, 9, 1);
        x.joint(true, 1, 0, 9, 1);
        x.joint(true, 0, 0, 9, 1);
        x.joint(false, 2, 0, 9, 1);
        x.jet(0, 5);
        x.jet(1, 7);
        x.jet(3, 11);
        x.leak(2, 4);
        for (int i = 0; i < 3; i++) {
            x.play(i, true);
        }
        Due.due("31: FLOW of two PIPES", x.tankOf(0, 5), 20);
        Due.due("31: FLOW of the other TANK", x.tankOf(1, 5), 7);
        x.minutes(3);
        Due.due("13: WATER of the first", x.tankOf(0, 1), 40);
        Due.due("13: WATER of the other", x.tankOf(1, 1), 79);
        x.play(2, false);
        x.empty(3);
        x.empty(2);
        Due.due("31: an EMPTY one has no FLOW", x.tankOf(0, 5), 5);
        x.minutes(1);
        Due.due("13: nor does its LEAK flow", x.tankOf(0, 1), 35);
    }

    private static void lasts() {
        Due.due("14: 20 by 12, spring 7", drawn(10, 2, 7, 12).lasts(0), 3);
        Due.due("14: just so much", drawn(12, 1, 0, 12).lasts(0), 1);
        Due.due("14: a spring of the same", drawn(12, 1, 12, 12).lasts(0), 1);
        Due.due("14: a greater TANK, a spring of the same", drawn(13, 1, 12, 12).lasts(0), -9);
        Due.due("14: 1440", drawn(36, 40, 0, 1).lasts(0), 1440);
        FountainNet more = drawn(37, 39, 0, 1);
        Due.due("14: 1443", more.lasts(0), -9);
        more.minutes(3);
        Due.due("14: then 1440 from now", more.lasts(0), 1440);
        Due.due("14: nothing changed", more.tankOf(0, 1), 1440);
        FountainNet none = one();
        Due.due("14: nothing flows", none.lasts(0), -9);
        none.set(0, 1, 0);
        Due.due("14: now", none.lasts(0), 0);
        Due.refused("14: lasts(1)", TanksTest::one, x -> x.lasts(1), -1);
        Due.refused("14: lasts(-1)", TanksTest::one, x -> x.lasts(-1), -1);
        Due.refused("14: lasts(MAX)", TanksTest::one, x -> x.lasts(MAX), -1);
        Due.refused("14: lasts(MIN)", TanksTest::one, x -> x.lasts(MIN), -1);
    }

    private static void tankOf() {
        FountainNet x = one();
        x.set(0, 1, 59);
        Due.row("31: tankOf", 0, 5, w -> x.tankOf(0, w), 105, 59, 3, 0, 0, 0);
        Due.refused("31: no TANK", TanksTest::one, y -> y.tankOf(1, 0), -1);
        Due.refused("31: no TANK, no what", TanksTest::one, y -> y.tankOf(-1, 6), -1);
        Due.refused("31: what 6", TanksTest::one, y -> y.tankOf(0, 6), -2);
        Due.refused("31: what -1", TanksTest::one, y -> y.tankOf(0, -1), -2);
        Due.refused("31: what MAX", TanksTest::one, y -> y.tankOf(0, MAX), -2);
    }
}
