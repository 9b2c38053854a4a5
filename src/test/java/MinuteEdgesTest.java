/** Promises 13 and 14, and the terms of MINUTES: a test for each sentence that names an edge. */
public final class MinuteEdgesTest {
    private static final int MIN = Integer.MIN_VALUE;
    private static final int MAX = Integer.MAX_VALUE;

    public static void main(String[] args) {
        atMost1440();
        belowOne();
        eachTank();
        toTheFullAndWhatIsMore();
        soMuchOrWhatLacks();
        springComesFirst();
        flowsOfAllPipes();
        emptyOnesHaveNoFlow();
        nMinutesAreNTimesOne();
        lastsNow();
        lastsWithin1440();
        lastsAsItIs();
        lastsRefused();
        Due.end("MinuteEdgesTest");
    }

    private static FountainNet at(int minute) {
        FountainNet x = new FountainNet();
        x.tank(100, 10, 6, 1);
        if (minute > 0) {
            x.minutes(minute);
        }
        return x;
    }

    /** A TANK of 60 with such WATER and SPRING, and one JET that draws so much (none if 0). */
    private static FountainNet with(int water, int spring, int draw) {
        FountainNet x = new FountainNet();
        x.tank(100, 10, 6, spring);
        x.joint(true, 0, 10, 9, 1);
        x.jet(0, Math.max(1, draw));
        x.play(0, draw > 0);
        x.set(0, 1, water);
        return x;
    }

    private static void behindOne(String name, FountainNet x, int water, int spilled, int lack) {
        Due.due("13: " + name, x.minutes(1), 1);
        Due.due("13: " + name + ", WATER", x.tankOf(0, 1), water);
        Due.due("13: " + name + ", SPILLED", x.tankOf(0, 3), spilled);
        Due.due("13: " + name + ", LACK", x.tankOf(0, 4), lack);
    }

    /** "MINUTES go on from 0 (1440 at most)"; "-6 above 1440 in all" */
    private static void atMost1440() {
        Due.taken("13: 1 of 1440", () -> at(0), x -> x.minutes(1), 1);
        Due.taken("13: all 1440", () -> at(0), x -> x.minutes(1440), 1440);
        Due.refused("13: 1441", () -> at(0), x -> x.minutes(1441), -6);
        Due.taken("13: 1439 behind 1", () -> at(1), x -> x.minutes(1439), 1440);
        Due.refused("13: 1440 behind 1", () -> at(1), x -> x.minutes(1440), -6);
        Due.taken("13: 1 behind 1439", () -> at(1439), x -> x.minutes(1), 1440);
        Due.refused("13: 2 behind 1439", () -> at(1439), x -> x.minutes(2), -6);
        Due.refused("13: 1 behind 1440", () -> at(1440), x -> x.minutes(1), -6);
        Due.refused("13: MAX behind 1440", () -> at(1440), x -> x.minutes(MAX), -6);
        Due.refused("13: MAX behind 2", Gardens::full, x -> x.minutes(MAX), -6);
        Due.taken("13: without a TANK", FountainNet::new, x -> x.minutes(1440), 1440);
    }

    /** "-4 below 1" */
    private static void belowOne() {
        for (int minute : new int[] {0, 1, 1440}) {
            Due.refused("13: 0 at " + minute, () -> at(minute), x -> x.minutes(0), -4);
            Due.refused("13: -1 at " + minute, () -> at(minute), x -> x.minutes(-1), -4);
            Due.refused("13: MIN at " + minute, () -> at(minute), x -> x.minutes(MIN), -4);
        }
    }

    /** "A MINUTE passes: each TANK", by what is its own. */
    private static void eachTank() {
        FountainNet x = new FountainNet();
        for (int i = 0; i < 4; i++) {
            x.tank(100, 10, 6, 10 * i);
            x.set(i, 1, 40 - 10 * i);
            x.joint(true, i, 0, 9, 1);
            x.jet(i, 1 + i);
            x.play(i, true);
        }
        Due.due("13: MINUTE", x.minutes(1), 1);
        Due.row("13: WATER of each", 0, 3, i -> x.tankOf(i, 1), 39, 38, 37, 36);
        x.minutes(3);
        // SPILLED: of the second 4 of 64; of the third 14 of 74, 17 of 77; of the last 6 of 66, then 26 of 86 twice
        Due.row("13: WATER of each, 3 MINUTES later", 0, 3, i -> x.tankOf(i, 1), 36, 60 - 2, 60 - 3, 60 - 4);
        Due.row("13: SPILLED of each", 0, 3, i -> x.tankOf(i, 3), 0, 4, 14 + 17, 6 + 26 + 26);
        Due.row("13: LACK of each", 0, 3, i -> x.tankOf(i, 4), 0, 0, 0, 0);
    }

    /** "WATER is more by SPRING (to AREA times DEPTH; what is more is SPILLED)" */
    private static void toTheFullAndWhatIsMore() {
        behindOne("one short of full", with(50, 9, 0), 59, 0, 0);
        behindOne("just full", with(50, 10, 0), 60, 0, 0);
        behindOne("one more than full", with(50, 11, 0), 60, 1, 0);
        behindOne("full, no SPRING", with(60, 0, 0), 60, 0, 0);
        behindOne("full, SPRING 1", with(60, 1, 0), 60, 1, 0);
        behindOne("the greatest SPRING", with(0, 500, 0), 60, 440, 0);
        behindOne("no WATER, no SPRING", with(0, 0, 0), 0, 0, 0);
    }

    /** "then less by the FLOWS, if it has so much, else it is 0 (what lacks is LACK)" */
    private static void soMuchOrWhatLacks() {
        behindOne("one more than FLOW", with(13, 0, 12), 1, 0, 0);
        behindOne("just FLOW", with(12, 0, 12), 0, 0, 0);
        behindOne("one less than FLOW", with(11, 0, 12), 0, 0, 1);
        behindOne("no WATER", with(0, 0, 12), 0, 0, 12);
        FountainNet x = with(12, 0, 12);
        x.minutes(3);
        Due.due("13: LACKS of MINUTES together", x.tankOf(0, 4), 24);
    }

    private static void springComesFirst() {
        behindOne("just the SPRING", with(0, 12, 12), 0, 0, 0);
        behindOne("one more than the SPRING", with(0, 12, 13), 0, 0, 1);
        behindOne("of a full one the SPRING is SPILLED", with(60, 12, 12), 48, 12, 0);
        behindOne("all of a full one, and what is SPILLED", with(60, 1, 60), 0, 1, 0);
        FountainNet x = with(60, 3, 2);
        x.minutes(4);
        // 60: 3 more are SPILLED; then of 58 each time 1
        Due.due("13: SPILLED of MINUTES together", x.tankOf(0, 3), 6);
    }

    /** "the FLOWS of all PIPES from it" */
    private static void flowsOfAllPipes() {
        FountainNet x = with(60, 0, 5);
        x.joint(true, 0, 0, 9, 1);
        x.joint(false, 1, 0, 9, 1);
        x.jet(2, 7);
        x.play(1, true);
        x.leak(1, 11);
        x.tank(100, 10, 6, 0);
        x.joint(true, 1, 0, 9, 1);
        x.jet(3, 13);
        x.play(2, true);
        behindOne("two PIPES from it", x, 37, 0, 0);
        Due.due("13: the other TANK", x.tankOf(1, 1), 47);
        Due.due("31: FLOW out of it", x.tankOf(0, 5), 23);
        Due.due("31: FLOW out of the other", x.tankOf(1, 5), 13);
    }

    /** "PIPES that are EMPTY, and all that come from their JOINTS, have no FLOW" */
    private static void emptyOnesHaveNoFlow() {
        FountainNet x = with(60, 0, 0);
        x.joint(false, 0, 0, 9, 1);
        x.leak(0, 4);
        x.leak(1, 6);
        x.empty(1);
        behindOne("the last PIPE is EMPTY", x, 56, 0, 0);
        x.empty(0);
        x.minutes(1);
        Due.due("13: both are EMPTY", x.tankOf(0, 1), 56);
        x.fill(0);
        x.fill(1);
        x.minutes(1);
        Due.due("13: both are FILLED", x.tankOf(0, 1), 46);
    }

    private static void nMinutesAreNTimesOne() {
        FountainNet x = Gardens.full();
        FountainNet y = Gardens.full();
        x.minutes(9);
        for (int n = 0; n < 9; n++) {
            y.minutes(1);
        }
        Due.due("13: MINUTE", x.count(0), y.count(0));
        for (int i = 0; i < 4; i++) {
            for (int w = 0; w < 6; w++) {
                Due.due("13: tankOf(" + i + ", " + w + ")", x.tankOf(i, w), y.tankOf(i, w));
            }
        }
    }

    /** "(0: it is now)" */
    private static void lastsNow() {
        Due.taken("14: now", () -> with(0, 0, 12), x -> x.lasts(0), 0);
        Due.taken("14: now, nothing flows", () -> with(0, 0, 0), x -> x.lasts(0), 0);
        Due.taken("14: now, whatever springs", () -> with(0, 500, 0), x -> x.lasts(0), 0);
        Due.taken("14: not now with 1", () -> with(1, 0, 1), x -> x.lasts(0), 1);
        Due.taken("14: behind one MINUTE that lacks", () -> with(1, 0, 60), x -> x.lasts(0), 1);
    }

    private static FountainNet slow(int water) {
        FountainNet x = new FountainNet();
        x.tank(0, 1000, 60, 0);
        x.joint(true, 0, 0, 9, 1);
        x.jet(0, 1);
        x.play(0, true);
        x.set(0, 1, water);
        return x;
    }

    /** "-9 not within 1440" */
    private static void lastsWithin1440() {
        Due.taken("14: 1439", () -> slow(1439), x -> x.lasts(0), 1439);
        Due.taken("14: 1440", () -> slow(1440), x -> x.lasts(0), 1440);
        Due.taken("14: 1441", () -> slow(1441), x -> x.lasts(0), -9);
        Due.taken("14: never", () -> with(1, 0, 0), x -> x.lasts(0), -9);
        Due.taken("14: as much springs", () -> with(59, 12, 12), x -> x.lasts(0), -9);
        Due.taken("14: one less springs", () -> with(40, 11, 12), x -> x.lasts(0), 40);
        // 70, to 60: 48 are left; then one less each
        Due.taken("14: one less springs, but is SPILLED", () -> with(59, 11, 12), x -> x.lasts(0), 49);
    }

    /** "passing as it is" */
    private static void lastsAsItIs() {
        FountainNet x = with(60, 0, 7);
        Due.due("14: lasts", x.lasts(0), 9);
        x.minutes(8);
        Due.due("14: 4 are left", x.tankOf(0, 1), 4);
        Due.due("14: then", x.lasts(0), 1);
        x.minutes(1);
        Due.due("14: none is left", x.tankOf(0, 1), 0);
        x.set(0, 1, 60);
        x.play(0, false);
        Due.due("14: SHUT", x.lasts(0), -9);
        x.leak(0, 30);
        Due.due("14: a LEAK", x.lasts(0), 2);
    }

    /** "-1." */
    private static void lastsRefused() {
        Due.number("14: lasts", Gardens::some, 2, (x, i) -> x.lasts(i));
        Due.number("14: lasts, none told", FountainNet::new, 0, (x, i) -> x.lasts(i));
        Due.number("14: lasts, all told", Gardens::full, 4, (x, i) -> x.lasts(i));
    }
}
