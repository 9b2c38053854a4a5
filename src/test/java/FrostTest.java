/** Promises 28 to 30: PIPES that are EMPTIED and FILLED. */
public final class FrostTest {
    private static final int MIN = Integer.MIN_VALUE;
    private static final int MAX = Integer.MAX_VALUE;

    public static void main(String[] args) {
        empty();
        fill();
        order();
        orderOfRows();
        mostInOrder();
        Due.end("FrostTest");
    }

    /** JOINTS 1 and 2 come from 0, 3 from 1; JET 0 at 2 PLAYS, JET 1 at 3 does not. */
    private static FountainNet tree() {
        FountainNet x = new FountainNet();
        x.tank(100, 10, 6, 0);
        x.joint(true, 0, 50, 9, 1);
        x.joint(false, 0, 20, 9, 1);
        x.joint(false, 0, 20, 9, 1);
        x.joint(false, 1, 20, 9, 1);
        x.jet(2, 5);
        x.jet(3, 5);
        x.play(0, true);
        return x;
    }

    private static FountainNet frozen() {
        FountainNet x = tree();
        x.empty(3);
        x.empty(1);
        return x;
    }

    private static void empty() {
        FountainNet x = tree();
        Due.due("28: empty(3)", x.empty(3), 1);
        Due.due("28: empty(1)", x.empty(1), 1);
        Due.due("28: count(6)", x.count(6), 2);
        Due.row("28: EMPTY", 0, 3, j -> x.jointOf(j, 6), 0, 1, 0, 1);
        Due.due("28: PLAYS there", x.empty(2), -3);
        x.play(0, false);
        Due.due("28: SHUT", x.empty(2), 1);
        Due.due("28: the first", x.empty(0), 1);
        Due.due("28: count(6)", x.count(6), 4);
        Due.refused("28: no JOINT", FrostTest::tree, y -> y.empty(4), -1);
        Due.refused("28: JOINT -1", FrostTest::tree, y -> y.empty(-1), -1);
        Due.refused("28: JOINT MAX", FrostTest::tree, y -> y.empty(MAX), -1);
        Due.refused("28: JOINT MIN", FrostTest::tree, y -> y.empty(MIN), -1);
        Due.refused("28: one comes from it", FrostTest::tree, y -> y.empty(1), -3);
        Due.refused("28: a JET PLAYS", FrostTest::tree, y -> y.empty(2), -3);
        Due.refused("28: it is EMPTY", FrostTest::frozen, y -> y.empty(3), -3);
        Due.refused("28: one of two comes from it", FrostTest::frozen, y -> y.empty(0), -3);
        Due.refused("6: to PLAY there", FrostTest::frozen, y -> y.play(1, true), -3);
    }

    private static void fill() {
        FountainNet x = frozen();
        Due.due("29: fill(3), the one ahead is EMPTY", x.fill(3), -3);
        Due.due("29: fill(1)", x.fill(1), 1);
        Due.due("29: fill(3)", x.fill(3), 1);
        Due.due("29: count(6)", x.count(6), 0);
        Due.due("29: to PLAY again", x.play(1, true), 1);
        Due.due("29: FLOW again", x.flow(0), 10);
        FountainNet first = new FountainNet();
        first.tank(1, 1, 1, 0);
        first.joint(true, 0, 0, 1, 1);
        Due.due("29: empty(0)", first.empty(0), 1);
        Due.due("29: from a TANK", first.fill(0), 1);
        Due.refused("29: no JOINT", FrostTest::frozen, y -> y.fill(4), -1);
        Due.refused("29: JOINT -1", FrostTest::frozen, y -> y.fill(-1), -1);
        Due.refused("29: JOINT MAX", FrostTest::frozen, y -> y.fill(MAX), -1);
        Due.refused("29: not EMPTY", FrostTest::frozen, y -> y.fill(2), -3);
        Due.refused("29: the one ahead is EMPTY", FrostTest::frozen, y -> y.fill(3), -3);
    }

    private static void order() {
        FountainNet x = tree();
        // all of one HEIGHT but the first: the least JOINT that may be, though JET 0 PLAYS
        Due.row("30: order", -1, 4, x::order, -9, 2, 3, 1, 0, -9);
        Due.due("30: MAX", x.order(MAX), -9);
        Due.due("30: MIN", x.order(MIN), -9);
        Due.due("30: nothing is EMPTIED", x.count(6), 0);
        Due.due("30: nothing is refused", x.count(11) + x.count(13) + x.count(14), 0);
        Due.row("30: of a rest, order", 0, 2, frozen()::order, 2, 0, -9);
        Due.due("30: nothing there", new FountainNet().order(0), -9);
    }

    private static void orderOfRows() {
        FountainNet x = new FountainNet();
        x.tank(100, 10, 6, 0);
        x.joint(true, 0, 10, 9, 1);
        x.joint(true, 0, 30, 9, 1);
        x.joint(false, 1, 5, 9, 1);
        x.joint(false, 0, 40, 9, 1);
        x.joint(false, 3, 7, 9, 1);
        x.joint(true, 0, 7, 9, 1);
        // ends: 2 (5), 4 (7), 5 (7): 4, then 3 (40), 0 (10), 5 (7), 2 (5), 1 (30)
        Due.row("30: order", 0, 6, x::order, 4, 3, 0, 5, 2, 1, -9);
        Due.due("30: once more", x.order(3), 5);
        for (int i = 0; i < 6; i++) {
            int next = x.order(0);
            Due.due("30: the next one may be", x.empty(next), 1);
        }
        Due.due("30: none is left", x.order(0), -9);
    }

    private static void mostInOrder() {
        FountainNet x = new FountainNet();
        x.tank(100, 10, 6, 0);
        x.joint(true, 0, 500, 9, 1);
        for (int j = 1; j < 30; j++) {
            x.joint(false, j - 1, 500 - j, 9, 1);
        }
        for (int i = 0; i < 30; i++) {
            Due.due("30: order(" + i + ")", x.order(i), 29 - i);
        }
        Due.due("30: order(30)", x.order(30), -9);
    }
}
