import java.util.function.Supplier;

/** Promises 1, 2, 3 and 31, and the terms of TANKS: a test for each sentence that names an edge. */
public final class TankEdgesTest {
    private static final int MIN = Integer.MIN_VALUE;
    private static final int MAX = Integer.MAX_VALUE;
    private static final int[] LEAST = {0, 1, 1, 0};
    private static final int[] MOST = {500, 1000, 60, 500};

    public static void main(String[] args) {
        nothingAtFirst();
        eachNumberOfATank();
        allLeastAndAllMost();
        fourAtMost();
        belowGoesAheadOfRoom();
        fullAtFirst();
        level();
        springSet();
        waterSet();
        setRefusedInOrder();
        tankOf();
        tankOfRefusedInOrder();
        Due.end("TankEdgesTest");
    }

    private static int made(FountainNet x, int[] told) {
        return x.tank(told[0], told[1], told[2], told[3]);
    }

    private static FountainNet tanks(int n) {
        FountainNet x = new FountainNet();
        for (int i = 0; i < n; i++) {
            x.tank(100 + i, 10, 6, i);
        }
        return x;
    }

    /** "Nothing; MINUTE 0." */
    private static void nothingAtFirst() {
        Due.row("1: count", 0, 6, new FountainNet()::count, 0, 0, 0, 0, 0, 0, 0);
        Due.row("1: refusals", 11, 16, new FountainNet()::count, 0, 0, 0, 0, 0, 0);
        Due.due("1: MINUTES go on from 0", new FountainNet().minutes(1), 1);
    }

    /** "FLOOR (0 .. 500 feet), AREA (1 .. 1000), DEPTH (1 .. 60 feet), SPRING (0 .. 500)" */
    private static void eachNumberOfATank() {
        Supplier<FountainNet> none = FountainNet::new;
        Due.range("2: FLOOR", none, 0, 500, 0, (x, v) -> x.tank(v, 10, 1, 0), x -> x.tankOf(0, 0) - 1);
        Due.range("2: AREA", none, 1, 1000, 0, (x, v) -> x.tank(0, v, 1, 0), x -> x.tankOf(0, 1));
        Due.range("2: DEPTH", none, 1, 60, 0, (x, v) -> x.tank(0, 1, v, 0), x -> x.tankOf(0, 1));
        Due.range("2: SPRING", none, 0, 500, 0, (x, v) -> x.tank(0, 1, 1, v), x -> x.tankOf(0, 2));
        Due.range("2: FLOOR of another", Gardens::some, 0, 500, 2, (x, v) -> x.tank(v, 10, 1, 0),
            x -> x.tankOf(2, 0) - 1);
    }

    private static void allLeastAndAllMost() {
        FountainNet x = new FountainNet();
        Due.due("2: all least", made(x, LEAST), 0);
        Due.due("2: all most", made(x, MOST), 1);
        Due.row("31: all least", 0, 5, w -> x.tankOf(0, w), 1, 1, 0, 0, 0, 0);
        Due.row("31: all most", 0, 5, w -> x.tankOf(1, w), 560, 60000, 500, 0, 0, 0);
    }

    /** "TANKS have numbers from 0 on (4 at most)" */
    private static void fourAtMost() {
        for (int n = 0; n < 4; n++) {
            int number = n;
            Due.taken("2: TANK " + n, () -> tanks(number), x -> x.tank(0, 1, 1, 0), n);
        }
        Due.refused("2: a fifth", () -> tanks(4), x -> x.tank(0, 1, 1, 0), -6);
        Due.refused("2: a fifth of a full garden", Gardens::full, x -> x.tank(500, 1000, 60, 500), -6);
    }

    /** "-4; -6 (4, too)": of two that fit the first one. */
    private static void belowGoesAheadOfRoom() {
        for (int below = 0; below < 4; below++) {
            int[] low = LEAST.clone();
            low[below]--;
            Due.refused("2: 4 TANKS, and below " + below, () -> tanks(4), x -> made(x, low), -4);
            for (int above = 0; above < 4; above++) {
                if (above != below) {
                    int[] both = low.clone();
                    both[above] = MOST[above] + 1;
                    Due.refused("2: below " + below + ", above " + above, () -> tanks(1), x -> made(x, both), -4);
                }
            }
        }
    }

    /** "WATER (0 .. AREA times DEPTH measures; full at first)" */
    private static void fullAtFirst() {
        FountainNet x = new FountainNet();
        x.tank(0, 7, 11, 500);
        Due.due("31: full at first", x.tankOf(0, 1), 77);
        Due.due("31: no SPILLED at first", x.tankOf(0, 3), 0);
        Due.due("31: no LACK at first", x.tankOf(0, 4), 0);
        Due.due("31: no FLOW at first", x.tankOf(0, 5), 0);
    }

    /** "LEVEL: FLOOR and WATER by AREA, cut." */
    private static void level() {
        int[][] due = {{0, 100}, {1, 100}, {9, 100}, {10, 101}, {19, 101}, {20, 102}, {59, 105}, {60, 106}};
        FountainNet x = tanks(1);
        for (int[] waterAndLevel : due) {
            x.set(0, 1, waterAndLevel[0]);
            Due.due("31: LEVEL with " + waterAndLevel[0], x.tankOf(0, 0), waterAndLevel[1]);
        }
    }

    /** "Of a TANK what 0 SPRING becomes v: what it was", 0 .. 500. */
    private static void springSet() {
        Due.range("3: SPRING", Gardens::some, 0, 500, 2, (x, v) -> x.set(0, 0, v), x -> x.tankOf(0, 2));
        Due.taken("3: SPRING as it is", Gardens::some, x -> x.set(0, 0, 2), 2);
        Due.due("3: WATER is as it was", changed(0, 9).tankOf(0, 1), Gardens.some().tankOf(0, 1));
    }

    /** "1 WATER becomes v", 0 .. AREA times DEPTH. */
    private static void waterSet() {
        int now = Gardens.some().tankOf(0, 1);
        Due.range("3: WATER", Gardens::some, 0, 60, now, (x, v) -> x.set(0, 1, v), x -> x.tankOf(0, 1));
        Due.range("3: WATER of the least TANK", () -> only(LEAST), 0, 1, 1, (x, v) -> x.set(0, 1, v),
            x -> x.tankOf(0, 1));
        Due.range("3: WATER of the greatest TANK", () -> only(MOST), 0, 60000, 60000, (x, v) -> x.set(0, 1, v),
            x -> x.tankOf(0, 1));
        Due.due("3: SPRING is as it was", changed(1, 9).tankOf(0, 2), 2);
        FountainNet x = tanks(2);
        x.set(1, 1, 0);
        Due.due("3: the other TANK's WATER", x.tankOf(0, 1), 60);
        Due.due("3: what it was, once more", x.set(1, 1, 60), 0);
        Due.due("3: what it was, at last", x.set(1, 1, 60), 60);
    }

    private static FountainNet changed(int what, int v) {
        FountainNet x = Gardens.some();
        x.set(0, what, v);
        return x;
    }

    private static FountainNet only(int[] told) {
        FountainNet x = new FountainNet();
        made(x, told);
        return x;
    }

    /** "-1; -2; -4; -6." */
    private static void setRefusedInOrder() {
        Due.number("3: set", Gardens::some, 2, (x, i) -> x.set(i, 0, 1));
        Due.number("3: set, none told", FountainNet::new, 0, (x, i) -> x.set(i, 0, 1));
        Due.number("3: set, all told", Gardens::full, 4, (x, i) -> x.set(i, 0, 1));
        Due.whats("3: set", Gardens::some, 1, (x, w) -> x.set(0, w, 0));
        Due.refused("3: NOBODY ahead of OTHER", Gardens::some, x -> x.set(2, 2, 0), -1);
        Due.refused("3: NOBODY ahead of BELOW", Gardens::some, x -> x.set(2, 0, -1), -1);
        Due.refused("3: NOBODY ahead of ROOM", Gardens::some, x -> x.set(2, 0, 501), -1);
        Due.refused("3: OTHER ahead of BELOW", Gardens::some, x -> x.set(0, 2, -1), -2);
        Due.refused("3: OTHER ahead of ROOM", Gardens::some, x -> x.set(0, -1, MAX), -2);
        Due.refused("3: all of them", Gardens::some, x -> x.set(-1, -1, MIN), -1);
    }

    /** "Of a TANK: 0 LEVEL, 1 WATER, 2 SPRING, 3 SPILLED, 4 LACK, 5 FLOW out of it." */
    private static void tankOf() {
        FountainNet x = new FountainNet();
        x.tank(100, 10, 2, 9);
        x.joint(true, 0, 10, 9, 1);
        x.jet(0, 12);
        x.play(0, true);
        // 20 and 9 to 20, less 12: 8; then 5, 2; then 11 of 12
        x.minutes(4);
        Due.row("31: behind 4 MINUTES", 0, 5, w -> x.tankOf(0, w), 100, 0, 9, 9, 1, 12);
        x.set(0, 1, 20);
        x.minutes(1);
        Due.row("31: full again, and behind another one", 0, 5, w -> x.tankOf(0, w), 100, 8, 9, 18, 1, 12);
        x.play(0, false);
        x.set(0, 0, 2);
        Due.row("31: SHUT, with another SPRING", 0, 5, w -> x.tankOf(0, w), 100, 8, 2, 18, 1, 0);
    }

    /** "-1; -2." */
    private static void tankOfRefusedInOrder() {
        Due.number("31: tankOf", Gardens::some, 2, (x, i) -> x.tankOf(i, 0));
        Due.number("31: tankOf, none told", FountainNet::new, 0, (x, i) -> x.tankOf(i, 5));
        Due.number("31: tankOf, all told", Gardens::full, 4, (x, i) -> x.tankOf(i, 5));
        Due.whats("31: tankOf", Gardens::some, 5, (x, w) -> x.tankOf(1, w));
        Due.refused("31: NOBODY ahead of OTHER", Gardens::some, x -> x.tankOf(2, 6), -1);
        Due.refused("31: NOBODY ahead of OTHER, both below", Gardens::some, x -> x.tankOf(-1, -1), -1);
    }
}
