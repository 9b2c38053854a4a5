/**
 * Promise 33, and the terms of REFUSALS: a test for each sentence that names an edge, and an object of which
 * nothing is told.
 */
public final class CountEdgesTest {
    private static final int MIN = Integer.MIN_VALUE;
    private static final int MAX = Integer.MAX_VALUE;

    public static void main(String[] args) {
        nothingYet();
        nothingYetRefused();
        allThatThereMayBe();
        otherWhats();
        eachRefusalByItself();
        noneOfKindFive();
        asTold();
        answersThatAreNone();
        refusedAgainAndAgain();
        afterwardsAsEver();
        Due.end("CountEdgesTest");
    }

    private static void nothingYet() {
        FountainNet x = new FountainNet();
        Due.row("33: nothing yet, count", 0, 6, x::count, 0, 0, 0, 0, 0, 0, 0);
        Due.row("33: nothing yet, count", 11, 16, x::count, 0, 0, 0, 0, 0, 0);
        Due.due("19: PACE at first", x.pace(1), 1);
        Due.due("24: TOL at first", x.tol(0), 0);
        Due.due("20: TASKS", x.tasks(), 0);
        Due.due("22: BOYS", x.boys(), 0);
        Due.due("25: explain", x.explain(), 4);
        Due.row("26: explained", 0, 3, x::explained, -9, -9, -9, -9);
        Due.due("27: rivals", x.rivals(), 0);
        Due.due("30: order", x.order(0), -9);
        Due.row("33: nothing is refused, count", 11, 16, x::count, 0, 0, 0, 0, 0, 0);
    }

    private static void nothingYetRefused() {
        FountainNet x = new FountainNet();
        int[] got = {x.set(0, 0, 0), x.joint(true, 0, 0, 1, 1), x.joint(false, 0, 0, 1, 1), x.jet(0, 1),
            x.play(0, true), x.play(0, false), x.pipe(0, 1), x.leak(0, 0), x.flow(0), x.rise(0), x.share(0, 0),
            x.share(0, 1), x.lasts(0), x.view(1, 0, 0, 0), x.task(0, 0), x.empty(0), x.fill(0), x.tankOf(0, 0),
            x.jointOf(0, 0)};
        for (int i = 0; i < got.length; i++) {
            Due.due("33: NOBODY there, call " + i, got[i], -1);
        }
        Due.due("10: nobody there", x.head(0), 1000000001);
        Due.due("23: nobody there", x.gauge(0, 0), 1000000001);
        Due.due("16: no VIEW", x.unview(), -3);
        Due.due("17: no VIEW", x.walk(0), -3);
        Due.due("18: no VIEW", x.most(), -3);
        Due.row("33: then count", 11, 16, x::count, got.length + 2, 0, 3, 0, 0, 0);
        Due.row("33: still nothing, count", 0, 6, x::count, 0, 0, 0, 0, 0, 0, 0);
    }

    /** "0 MINUTE, 1 TANKS, 2 JOINTS, 3 JETS, 4 that PLAY, 5 VIEWS, 6 PIPES that are EMPTY" */
    private static void allThatThereMayBe() {
        FountainNet x = Gardens.full();
        Due.row("33: all told, count", 0, 6, x::count, 2, 4, 30, 24, 23, 12, 1);
        x.fill(29);
        Due.due("6: the last one", x.play(23, true), 1);
        x.minutes(1438);
        Due.row("33: the most of each, count", 0, 6, x::count, 1440, 4, 30, 24, 24, 12, 0);
        for (int i = 0; i < 24; i++) {
            x.play(i, false);
        }
        for (int j = 29; j >= 0; j--) {
            x.empty(j);
        }
        Due.row("33: all are EMPTY, count", 0, 6, x::count, 1440, 4, 30, 24, 0, 12, 30);
    }

    /** "-9 for another what" */
    private static void otherWhats() {
        FountainNet x = Gardens.some();
        for (int what : new int[] {-1, 7, 8, 9, 10, 17, 18, -6, -11, 1000000001, MIN, MIN + 10, MIN + 11, MAX}) {
            Due.taken("33: count(" + what + ")", Gardens::some, y -> y.count(what), -9);
        }
        Due.row("33: count", -1, 18, x::count, -9, 1, 2, 5, 3, 2, 2, 1, -9, -9, -9, -9, 0, 0, 0, 0, 0, 0, -9, -9);
    }

    /** "11 .. 16 REFUSALS -1 .. -6" */
    private static void eachRefusalByItself() {
        Due.refused("33: NOBODY", Gardens::some, x -> x.flow(5), -1);
        Due.refused("33: OTHER", Gardens::some, x -> x.walk(5), -2);
        Due.refused("33: STATE", Gardens::some, x -> x.empty(3), -3);
        Due.refused("33: BELOW", Gardens::some, x -> x.minutes(0), -4);
        Due.refused("33: ROOM", Gardens::some, x -> x.minutes(1440), -6);
        FountainNet x = Gardens.some();
        x.flow(5);
        for (int n = 0; n < 2; n++) {
            x.walk(5);
        }
        for (int n = 0; n < 3; n++) {
            x.empty(3);
        }
        for (int n = 0; n < 4; n++) {
            x.minutes(0);
        }
        for (int n = 0; n < 6; n++) {
            x.minutes(1440);
        }
        Due.row("33: each so often, count", 11, 16, x::count, 1, 2, 3, 4, 0, 6);
    }

    /** There is no refusal -5. */
    private static void noneOfKindFive() {
        FountainNet x = Gardens.full();
        x.tank(1, 1, 1, 1);
        x.joint(false, 29, 0, 1, 1);
        x.jet(29, 0);
        x.view(1, 1441, 1441, 501);
        x.explained(-5);
        x.count(-5);
        Due.due("33: count(15)", x.count(15), 0);
        Due.row("33: count", 11, 16, x::count, 0, 1, 1, 0, 0, 3);
    }

    /** "Of answers that may be below 0 as told REFUSALS are 1000000000 less them" */
    private static void asTold() {
        FountainNet x = Gardens.some();
        Due.due("10: head", x.head(5), 1000000001);
        Due.due("23: gauge, NOBODY", x.gauge(3, 0), 1000000001);
        Due.due("23: gauge, BELOW", x.gauge(0, -2), 1000000004);
        Due.due("23: gauge, ROOM", x.gauge(0, 501), 1000000006);
        Due.row("33: they are counted, too, count", 11, 16, x::count, 2, 0, 0, 1, 0, 1);
    }

    /** Answers of -9 and of 0 are no refusals. */
    private static void answersThatAreNone() {
        FountainNet x = Gardens.some();
        x.unview();
        x.unview();
        x.view(1, 1, 1, 0);
        x.play(0, false);
        x.play(1, false);
        int[] got = {x.lasts(0), x.walk(0), x.walk(1), x.walk(2), x.order(4), x.jointOf(0, 4), x.jointOf(4, 5),
            x.count(7), x.explained(3)};
        for (int i = 0; i < got.length; i++) {
            Due.due("33: no refusal, call " + i, got[i], -9);
        }
        Due.due("33: nor is 0 one", x.play(0, false), 0);
        Due.row("33: none is counted, count", 11, 16, x::count, 0, 0, 0, 0, 0, 0);
    }

    private static void refusedAgainAndAgain() {
        FountainNet x = new FountainNet();
        for (int n = 0; n < 500; n++) {
            x.unview();
        }
        Due.due("33: 500 of them", x.count(13), 500);
        Due.due("33: of no other", x.count(11) + x.count(12) + x.count(14) + x.count(16), 0);
    }

    /** "nothing changes but how many there were": a garden built among refusals is as one built without. */
    private static void afterwardsAsEver() {
        FountainNet x = new FountainNet();
        x.tank(0, 0, 0, 0);
        Due.due("2: then a TANK", x.tank(100, 10, 6, 0), 0);
        x.joint(true, 1, 0, 1, 1);
        x.joint(false, 0, 0, 1, 1);
        Due.due("4: then a JOINT", x.joint(true, 0, 10, 9, 1), 0);
        x.jet(1, 1);
        x.jet(0, 61);
        Due.due("5: then a JET", x.jet(0, 5), 0);
        x.jet(0, 6);
        x.view(2, 0, 0, 0);
        x.view(1, 0, 1441, 0);
        Due.due("15: then a VIEW from 0", x.view(1, 0, 0, 0), 0);
        x.minutes(1441);
        Due.due("13: then a MINUTE", x.minutes(1), 1);
        x.play(1, true);
        Due.due("6: then it PLAYS", x.play(0, true), 1);
        Due.due("11: RISE", x.rise(0), 86);
    }
}
