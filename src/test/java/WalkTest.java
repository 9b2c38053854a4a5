/** Promises 15 to 18: VIEWS and the WALK. */
public final class WalkTest {
    private static final int MIN = Integer.MIN_VALUE;
    private static final int MAX = Integer.MAX_VALUE;

    public static void main(String[] args) {
        view();
        viewRefused();
        mostViews();
        unview();
        walkToItsEnd();
        walkThatFails();
        walkFromLater();
        walkOfTwoTanks();
        walkOfEmptyPipes();
        walkRefused();
        most();
        greatestMost();
        Due.end("WalkTest");
    }

    private static FountainNet viewed() {
        FountainNet x = Gardens.twoJets();
        x.view(1, 2, 4, 30);
        x.view(3, 6, 7, 40);
        return x;
    }

    private static void found(String name, FountainNet x, int... wants) {
        Due.row(name, 0, 4, x::walk, wants);
    }

    private static void view() {
        FountainNet x = Gardens.twoJets();
        Due.due("15: the least", x.view(1, 0, 0, 0), 0);
        Due.due("15: right behind", x.view(2, 1, 5, 500), 1);
        Due.due("15: the last MINUTE again", x.view(2, 5, 6, 0), -4);
        Due.due("15: to 1440", x.view(3, 1439, 1440, 1), 2);
        Due.due("15: 1441", x.view(3, 1441, 1441, 1), -6);
        Due.due("33: count(5)", x.count(5), 3);
        FountainNet y = Gardens.twoJets();
        y.minutes(100);
        Due.due("15: one that has been", y.view(3, 3, 5, 1), 0);
    }

    private static void viewRefused() {
        Due.refused("15: none", WalkTest::viewed, x -> x.view(0, 8, 8, 0), -1);
        Due.refused("15: JET 2", WalkTest::viewed, x -> x.view(4, 8, 8, 0), -1);
        Due.refused("15: JETS 0 and 2", WalkTest::viewed, x -> x.view(5, 0, 8, 0), -1);
        Due.refused("15: bit 31", WalkTest::viewed, x -> x.view(MIN, 8, 8, 0), -1);
        Due.refused("15: all bits", WalkTest::viewed, x -> x.view(-1, 8, 8, 0), -1);
        Due.refused("15: from 7", WalkTest::viewed, x -> x.view(1, 7, 9, 0), -4);
        Due.refused("15: from MIN", WalkTest::viewed, x -> x.view(1, MIN, 9, 0), -4);
        Due.refused("15: to below from", WalkTest::viewed, x -> x.view(1, 9, 8, 0), -4);
        Due.refused("15: rise -1", WalkTest::viewed, x -> x.view(1, 8, 8, -1), -4);
        Due.refused("15: rise -1, to 1441", WalkTest::viewed, x -> x.view(1, 8, 1441, -1), -4);
        Due.refused("15: to 1441", WalkTest::viewed, x -> x.view(1, 8, 1441, 0), -6);
        Due.refused("15: to MAX", WalkTest::viewed, x -> x.view(1, MAX, MAX, 0), -6);
        Due.refused("15: rise 501", WalkTest::viewed, x -> x.view(1, 8, 8, 501), -6);
        Due.refused("15: from -1, the first", Gardens::twoJets, x -> x.view(1, -1, 8, 0), -4);
    }

    private static void mostViews() {
        FountainNet x = Gardens.twoJets();
        for (int i = 0; i < 12; i++) {
            Due.due("15: view " + i, x.view(1 + i % 3, i, i, 0), i);
        }
        Due.due("15: a 13th", x.view(1, 12, 12, 0), -6);
        Due.due("15: a 13th, too early", x.view(1, 11, 12, 0), -4);
        Due.due("15: a 13th of none", x.view(0, 11, 12, 0), -1);
        Due.due("16: unview()", x.unview(), 11);
        Due.due("15: a 12th again, with its MINUTE", x.view(1, 11, 12, 0), 11);
        Due.due("33: count(5)", x.count(5), 12);
    }

    private static void unview() {
        FountainNet x = viewed();
        Due.due("16: unview()", x.unview(), 1);
        found("16: walk of the first", x, -9, -9, -9, 15, 45);
        Due.due("16: unview()", x.unview(), 0);
        Due.due("16: unview()", x.unview(), -3);
        Due.due("16: from 0 on again", x.view(1, 0, 0, 0), 0);
        Due.refused("16: none", Gardens::twoJets, y -> y.unview(), -3);
    }

    private static void walkToItsEnd() {
        FountainNet x = viewed();
        x.play(1, true);
        // 3 MINUTES of 5, 2 of 12: none else PLAYS
        found("17: walk", x, -9, -9, -9, 39, 21);
        found("17: walk, once more", x, -9, -9, -9, 39, 21);
        Due.due("17: nothing changes: WATER", x.tankOf(0, 1), 60);
        Due.due("17: MINUTE", x.count(0), 0);
        Due.due("17: what PLAYS", x.flow(0) * 100 + x.flow(1), 7);
        x.set(0, 0, 10);
        // full till MINUTE 6: the SPRING comes first; then two of 12, with 10 more each
        found("17: with a SPRING", x, -9, -9, -9, 39, 46);
        x.set(0, 0, 0);
        x.leak(1, 1);
        found("17: a LEAK, from now on", x, -9, -9, -9, 47, 13);
        x.set(0, 1, 3);
        found("17: lacking at MINUTE 2", x, 3, 0, 0, 3, 0);
        x.set(0, 1, 2);
        found("17: dry at MINUTE 2", x, 2, 0, 0, 2, 0);
    }

    private static void walkThatFails() {
        FountainNet x = Gardens.twoJets();
        x.view(1, 1, 3, 86);
        x.view(3, 4, 9, 70);
        // LEVEL 106, 105, 105 less 10: 86, 85, ...
        found("17: at MINUTE 2", x, 2, 0, 0, 5, 55);
        x.unview();
        x.unview();
        x.view(1, 1, 3, 85);
        x.view(3, 4, 9, 74);
        // 45 at MINUTE 4, 33, 21, then 9: LEVEL 104, 103, 102, 100; JET 1: 84, 83, 82, 80 by 9 tenths
        found("17: the second JET, 73 at MINUTE 6", x, 6, 1, 1, 39, 21);
        x.unview();
        x.view(3, 4, 9, 80);
        found("17: the second JET at once", x, 4, 1, 1, 15, 45);
        x.unview();
        x.view(3, 4, 9, 90);
        found("17: the least JET of both", x, 4, 1, 0, 15, 45);
        x.unview();
        x.view(3, 4, 9, 0);
        found("17: a RISE of 0 never fails", x, -9, -9, -9, 60, 0);
        x.unview();
        x.view(3, 4, 9, 1);
        found("17: but one of 1, when it is DRY", x, 8, 1, 0, 60, 0);
    }

    private static void walkFromLater() {
        FountainNet x = viewed();
        x.minutes(4);
        found("17: in the first VIEW's last MINUTE", x, -9, -9, -9, 29, 31);
        x.minutes(3);
        found("17: in the last MINUTE", x, -9, -9, -9, 12, 48);
        x.minutes(1);
        found("17: behind it", x, -3, -3, -3, -3, -3);
        x.view(1, 1440, 1440, 0);
        found("17: to MINUTE 1440", x, -9, -9, -9, 5, 55);
        x.minutes(1432);
        found("17: at MINUTE 1440", x, -9, -9, -9, 5, 55);
    }

    private static void walkOfTwoTanks() {
        FountainNet x = Gardens.twoJets();
        x.tank(50, 4, 1, 1);
        x.joint(true, 1, 0, 9, 1);
        x.jet(2, 2);
        x.view(5, 0, 2, 0);
        // each MINUTE 5 of the first; of the second 4 and 1 to 4, less 2; 3, less 2; 2, less 2
        found("17: of both TANKS", x, -9, -9, -9, 21, 0);
        x.set(1, 1, 0);
        x.set(1, 0, 3);
        found("17: the least is now", x, -9, -9, -9, 21, 0);
        x.tank(9, 1, 1, 0);
        x.set(1, 1, 4);
        found("17: a TANK that gives nothing", x, -9, -9, -9, 21, 1);
    }

    private static void walkOfEmptyPipes() {
        FountainNet x = Gardens.twoJets();
        x.view(3, 0, 1, 1);
        x.empty(1);
        found("17: behind an EMPTY PIPE", x, 0, 0, 1, 0, 60);
        x.unview();
        x.view(3, 0, 1, 0);
        found("17: from there no FLOW", x, -9, -9, -9, 10, 50);
        Due.due("18: most()", x.most(), 0);
    }

    private static void walkRefused() {
        Due.refused("17: what 5", WalkTest::viewed, x -> x.walk(5), -2);
        Due.refused("17: what -1", WalkTest::viewed, x -> x.walk(-1), -2);
        Due.refused("17: what 5, no VIEW", Gardens::twoJets, x -> x.walk(5), -2);
        Due.refused("17: no VIEW", Gardens::twoJets, x -> x.walk(0), -3);
        Due.refused("17: what MIN", Gardens::twoJets, x -> x.walk(MIN), -2);
        Due.refused("18: no VIEW", Gardens::twoJets, FountainNet::most, -3);
        Due.refused("18: no VIEW now or later", WalkTest::later, FountainNet::most, -3);
        Due.refused("17: no VIEW now or later", WalkTest::later, x -> x.walk(4), -3);
    }

    private static FountainNet later() {
        FountainNet x = viewed();
        x.minutes(8);
        return x;
    }

    private static void most() {
        FountainNet x = Gardens.twoJets();
        x.view(1, 1, 3, 500);
        x.view(3, 4, 6, 500);
        // JET 1 at MINUTE 6: LEVEL 102, less 20
        Due.due("18: most()", x.most(), 73);
        Due.due("18: VIEWS as they were", x.walk(0), 1);
        x.unview();
        Due.due("18: most() of the first", x.most(), 85);
        x.unview();
        x.view(1, 1, 3, 85);
        x.view(3, 4, 6, 73);
        Due.due("18: it doesn't FAIL", x.walk(0), -9);
        x.minutes(6);
        Due.due("18: later there is more", x.most(), 77);
        x.set(0, 1, 0);
        Due.due("18: DRY", x.most(), 0);
    }

    private static void greatestMost() {
        FountainNet x = new FountainNet();
        x.tank(500, 1000, 60, 0);
        x.joint(true, 0, 0, 9, 1);
        x.jet(0, 1);
        x.view(1, 0, 0, 0);
        Due.due("18: what is more than 500", x.most(), 500);
        x.set(0, 1, 55999);
        Due.due("18: 9 tenths of 555", x.most(), 499);
        x.set(0, 1, 56000);
        Due.due("18: 9 tenths of 556", x.most(), 500);
    }
}
