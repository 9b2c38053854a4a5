/** Promises 28 to 30, and the terms of FROST: a test for each sentence that names an edge. */
public final class FrostEdgesTest {
    private static final int MIN = Integer.MIN_VALUE;
    private static final int MAX = Integer.MAX_VALUE;

    public static void main(String[] args) {
        allThatComeFromItAre();
        noJetAtItPlays();
        oneAtATime();
        emptiedTwice();
        emptyRefusedInOrder();
        fillOneAtATime();
        fillWithoutAPipeAhead();
        fillRefusedInOrder();
        ithInTheOrder();
        greatestHeightLeastJoint();
        ofThoseThatMayBe();
        asIfAllJetsWereShut();
        orderOfAllThatAreNot();
        orderOfThirty();
        orderCanBeDone();
        Due.end("FrostEdgesTest");
    }

    /** JOINTS from one TANK or from a JOINT ahead (-1: from the TANK), each of a HEIGHT. */
    private static FountainNet made(int[] ahead, int... heights) {
        FountainNet x = new FountainNet();
        x.tank(500, 10, 6, 0);
        for (int j = 0; j < ahead.length; j++) {
            x.joint(ahead[j] < 0, Math.max(0, ahead[j]), heights[j], 9, 1);
        }
        return x;
    }

    private static FountainNet row(int joints) {
        int[] ahead = new int[joints];
        int[] heights = new int[joints];
        for (int j = 0; j < joints; j++) {
            ahead[j] = j - 1;
            heights[j] = 500 - j;
        }
        return made(ahead, heights);
    }

    /** JOINTS 1 and 2 come from 0, 3 from 2. */
    private static FountainNet tree() {
        return made(new int[] {-1, 0, 0, 2}, 0, 0, 0, 0);
    }

    private static FountainNet frozen(int... joints) {
        FountainNet x = tree();
        for (int j : joints) {
            x.empty(j);
        }
        return x;
    }

    private static FountainNet with(FountainNet x, int jetAt, boolean plays) {
        x.jet(jetAt, 1);
        x.play(0, plays);
        return x;
    }

    /** "one may be EMPTIED if all that come from its JOINT are" */
    private static void allThatComeFromItAre() {
        Due.taken("28: none comes from it", FrostEdgesTest::tree, x -> x.empty(1), 1);
        Due.taken("28: none comes from it, of the greatest number", FrostEdgesTest::tree, x -> x.empty(3), 1);
        Due.refused("28: one comes from it", FrostEdgesTest::tree, x -> x.empty(2), -3);
        Due.taken("28: which is EMPTY", () -> frozen(3), x -> x.empty(2), 1);
        Due.refused("28: two come from it", FrostEdgesTest::tree, x -> x.empty(0), -3);
        Due.refused("28: the first is EMPTY", () -> frozen(1), x -> x.empty(0), -3);
        Due.refused("28: the second is EMPTY", () -> frozen(3, 2), x -> x.empty(0), -3);
        Due.taken("28: both are", () -> frozen(3, 2, 1), x -> x.empty(0), 1);
        Due.due("28: EMPTY are", frozen(3, 2, 1).count(6), 3);
        FountainNet x = frozen(3, 2, 1, 0);
        Due.due("28: EMPTY are all", x.count(6), 4);
        Due.row("28: EMPTY", 0, 3, j -> x.jointOf(j, 6), 1, 1, 1, 1);
    }

    /** "and no JET at its JOINT PLAYS" */
    private static void noJetAtItPlays() {
        Due.taken("28: a JET that is SHUT", () -> with(tree(), 1, false), x -> x.empty(1), 1);
        Due.refused("28: a JET that PLAYS", () -> with(tree(), 1, true), x -> x.empty(1), -3);
        Due.taken("28: a JET that PLAYS ahead of it", () -> with(tree(), 0, true), x -> x.empty(1), 1);
        Due.taken("28: a JET that PLAYS beside it", () -> with(tree(), 2, true), x -> x.empty(1), 1);
        Due.refused("28: all behind it are, but its JET PLAYS", () -> with(frozen(3), 2, true), x -> x.empty(2), -3);
        FountainNet x = with(tree(), 1, true);
        x.play(0, false);
        Due.due("28: SHUT again", x.empty(1), 1);
        Due.due("28: a JET doesn't PLAY by it", x.count(4), 0);
    }

    /** "PIPES are EMPTIED, one at a time" */
    private static void oneAtATime() {
        FountainNet x = tree();
        Due.due("28: the last", x.empty(3), 1);
        Due.row("28: just this one is EMPTY", 0, 3, j -> x.jointOf(j, 6), 0, 0, 0, 1);
        Due.due("28: the one ahead of it", x.empty(2), 1);
        Due.row("28: then both are", 0, 3, j -> x.jointOf(j, 6), 0, 0, 1, 1);
        Due.due("28: the one beside", x.empty(1), 1);
        Due.row("28: then three", 0, 3, j -> x.jointOf(j, 6), 0, 1, 1, 1);
        Due.due("28: the first", x.empty(0), 1);
        Due.due("28: then all", x.count(6), 4);
    }

    /** "-3 it is" */
    private static void emptiedTwice() {
        Due.refused("28: it is EMPTY", () -> frozen(1), x -> x.empty(1), -3);
        Due.refused("28: it is EMPTY, with all", () -> frozen(3, 2, 1, 0), x -> x.empty(0), -3);
        FountainNet x = frozen(1);
        x.fill(1);
        Due.due("28: FILLED in between", x.empty(1), 1);
    }

    private static void emptyRefusedInOrder() {
        Due.number("28: empty", Gardens::some, 5, (x, i) -> x.empty(i));
        Due.number("28: empty, none told", FountainNet::new, 0, (x, i) -> x.empty(i));
        Due.number("28: empty, all told", Gardens::full, 30, (x, i) -> x.empty(i));
        Due.number("28: empty, all EMPTY", () -> frozen(3, 2, 1, 0), 4, (x, i) -> x.empty(i));
    }

    /** "FILLED: one whose PIPE ahead (if there is one) is not EMPTY." */
    private static void fillOneAtATime() {
        Due.taken("29: the one ahead isn't EMPTY", () -> frozen(3), x -> x.fill(3), 1);
        Due.refused("29: the one ahead is", () -> frozen(3, 2), x -> x.fill(3), -3);
        Due.taken("29: it goes first", () -> frozen(3, 2), x -> x.fill(2), 1);
        FountainNet x = frozen(3, 2);
        x.fill(2);
        Due.due("29: the one ahead is FILLED", x.fill(3), 1);
        Due.due("29: none is EMPTY", x.count(6), 0);
        FountainNet y = frozen(3, 2, 1, 0);
        y.fill(0);
        Due.row("29: only the first is FILLED", 0, 3, j -> y.jointOf(j, 6), 0, 1, 1, 1);
        Due.due("29: of two behind it the second", y.fill(2), 1);
        Due.due("29: then the first", y.fill(1), 1);
    }

    private static void fillWithoutAPipeAhead() {
        Due.taken("29: from a TANK", () -> frozen(3, 2, 1, 0), x -> x.fill(0), 1);
        Due.taken("29: from a TANK, whatever WATER", FrostEdgesTest::dry, x -> x.fill(0), 1);
    }

    private static FountainNet dry() {
        FountainNet x = row(1);
        x.empty(0);
        x.set(0, 1, 0);
        return x;
    }

    /** "-1; -3 it is not EMPTY, or the one ahead is." */
    private static void fillRefusedInOrder() {
        Due.number("29: fill", Gardens::some, 5, (x, i) -> x.fill(i));
        Due.number("29: fill, none told", FountainNet::new, 0, (x, i) -> x.fill(i));
        Due.number("29: fill, all told", Gardens::full, 30, (x, i) -> x.fill(i));
        Due.refused("29: it isn't EMPTY", () -> frozen(3), x -> x.fill(2), -3);
        Due.refused("29: none is EMPTY", FrostEdgesTest::tree, x -> x.fill(0), -3);
    }

    /** "The i-th JOINT in the ORDER of emptying ..; -9 there are not so many." */
    private static void ithInTheOrder() {
        FountainNet x = tree();
        Due.row("30: order", -1, 4, x::order, -9, 1, 3, 2, 0, -9);
        Due.due("30: MIN", x.order(MIN), -9);
        Due.due("30: MAX", x.order(MAX), -9);
        Due.row("30: none told, order", -1, 1, new FountainNet()::order, -9, -9, -9);
        Due.row("30: one, order", -1, 1, row(1)::order, -9, 0, -9);
        Due.row("30: -9 is no refusal", 11, 16, x::count, 0, 0, 0, 0, 0, 0);
    }

    /** "the one of the greatest HEIGHT of its JOINT .., of several the least JOINT" */
    private static void greatestHeightLeastJoint() {
        int[] all = {-1, -1, -1, -1};
        Due.row("30: all of one HEIGHT, order", 0, 4, made(all, 7, 7, 7, 7)::order, 0, 1, 2, 3, -9);
        Due.row("30: by HEIGHTS, order", 0, 4, made(all, 0, 499, 1, 500)::order, 3, 1, 2, 0, -9);
        Due.row("30: by HEIGHTS, the first, order", 0, 4, made(all, 9, 8, 8, 0)::order, 0, 1, 2, 3, -9);
        Due.row("30: two of the greatest, order", 0, 4, made(all, 3, 8, 3, 8)::order, 1, 3, 0, 2, -9);
        Due.row("30: HEIGHT 0 all, order", 0, 4, made(all, 0, 0, 0, 0)::order, 0, 1, 2, 3, -9);
    }

    /** "of those that may be" */
    private static void ofThoseThatMayBe() {
        int[] ahead = {-1, 0, 1, -1};
        Due.row("30: the highest waits, order", 0, 4, made(ahead, 500, 10, 5, 7)::order, 3, 2, 1, 0, -9);
        Due.row("30: the one behind goes first, order", 0, 4, made(ahead, 9, 9, 9, 9)::order, 2, 1, 0, 3, -9);
        int[] two = {-1, 0, 0, -1};
        Due.row("30: both behind go first, order", 0, 4, made(two, 400, 3, 1, 2)::order, 1, 3, 2, 0, -9);
    }

    /** "as if all JETS were SHUT" */
    private static void asIfAllJetsWereShut() {
        FountainNet x = with(tree(), 1, true);
        Due.row("30: one PLAYS, order", 0, 4, x::order, 1, 3, 2, 0, -9);
        Due.due("30: it PLAYS on", x.count(4), 1);
        Due.due("30: though it may not be EMPTIED", x.empty(1), -3);
    }

    /** "ORDER of emptying all that are not" */
    private static void orderOfAllThatAreNot() {
        Due.row("30: one is EMPTY, order", 0, 3, frozen(3)::order, 1, 2, 0, -9);
        Due.row("30: the first of it is, order", 0, 3, frozen(1)::order, 3, 2, 0, -9);
        Due.row("30: one is left, order", 0, 1, frozen(1, 3, 2)::order, 0, -9);
        Due.row("30: none is left, order", 0, 1, frozen(1, 3, 2, 0)::order, -9, -9);
        FountainNet x = frozen(1, 3);
        x.fill(1);
        Due.row("30: one is FILLED again, order", 0, 3, x::order, 1, 2, 0, -9);
    }

    private static void orderOfThirty() {
        FountainNet x = row(30);
        Due.due("30: the first of 30", x.order(0), 29);
        Due.due("30: the last of 30", x.order(29), 0);
        Due.due("30: there are not so many", x.order(30), -9);
        FountainNet y = Gardens.full();
        Due.due("30: the last of 29", y.order(28) >= 0 ? 1 : 0, 1);
        Due.due("30: one is EMPTY", y.order(29), -9);
    }

    private static void orderCanBeDone() {
        FountainNet x = Gardens.full();
        for (int i = 0; i < 23; i++) {
            x.play(i, false);
        }
        for (int n = 29; n > 0; n--) {
            Due.due("30: then there are " + n, x.order(n), -9);
            Due.due("30: the next may be EMPTIED", x.empty(x.order(0)), 1);
        }
        Due.due("30: all are EMPTY", x.count(6), 30);
        Due.due("30: none is left", x.order(0), -9);
    }
}
