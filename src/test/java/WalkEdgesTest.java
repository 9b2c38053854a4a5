/** Promises 15 to 18, and the terms of the WALK: a test for each sentence that names an edge. */
public final class WalkEdgesTest {
    private static final int MIN = Integer.MIN_VALUE;
    private static final int MAX = Integer.MAX_VALUE;

    public static void main(String[] args) {
        bitsOfJets();
        behindTheLastMinute();
        toNotBelowFrom();
        to1440();
        riseOfAView();
        twelveAtMost();
        belowInView();
        viewRefusedInOrder();
        unview();
        lessRiseThanTold();
        risesFirst();
        lastMinuteOfAView();
        justItsJets();
        leastJetOfTheView();
        fromNowOn();
        onWhatThereIs();
        minutesAheadOfAView();
        toItsEnd();
        waterOfTheWalk();
        leastWater();
        emptyPipes();
        nothingChanges();
        walkRefusedInOrder();
        noViewNowOrLater();
        most();
        mostAside();
        mostAtItsEnds();
        Due.end("WalkEdgesTest");
    }

    /** VIEWS told as rows of set, from, to, rise. */
    private static FountainNet viewed(int[]... views) {
        FountainNet x = Gardens.twoJets();
        for (int[] told : views) {
            x.view(told[0], told[1], told[2], told[3]);
        }
        return x;
    }

    private static int[] v(int set, int from, int to, int rise) {
        return new int[] {set, from, to, rise};
    }

    private static void found(String name, FountainNet x, int... wants) {
        Due.row(name, 0, 4, x::walk, wants);
    }

    private static FountainNet manyJets(int jets) {
        FountainNet x = new FountainNet();
        x.tank(100, 10, 6, 0);
        for (int i = 0; i < jets; i++) {
            x.joint(true, 0, 10, 9, 1);
            x.jet(i, 1);
        }
        return x;
    }

    /** "-1 bits of JETS that there are not, none" */
    private static void bitsOfJets() {
        for (int jets : new int[] {1, 2, 23, 24}) {
            int next = 1 << jets;
            Due.taken("15: the first of " + jets, () -> manyJets(jets), x -> x.view(1, 0, 0, 0), 0);
            Due.taken("15: the last of " + jets, () -> manyJets(jets), x -> x.view(next >> 1, 0, 0, 0), 0);
            Due.taken("15: all " + jets, () -> manyJets(jets), x -> x.view(next - 1, 0, 0, 0), 0);
            for (int set : new int[] {0, next, next | 1, 1 << 30, MIN, MIN | 1, -1, MAX}) {
                Due.refused("15: set " + set + " of " + jets, () -> manyJets(jets), x -> x.view(set, 0, 0, 0), -1);
            }
        }
        for (int set : new int[] {0, 1, MIN, -1, MAX}) {
            Due.refused("15: set " + set + ", none told", FountainNet::new, x -> x.view(set, 0, 0, 0), -1);
        }
    }

    /** "-4 from not behind the last MINUTE of the VIEW ahead (from 0 on)" */
    private static void behindTheLastMinute() {
        Due.taken("15: from 0", Gardens::twoJets, x -> x.view(1, 0, 3, 0), 0);
        Due.refused("15: from -1", Gardens::twoJets, x -> x.view(1, -1, 3, 0), -4);
        Due.refused("15: from MIN", Gardens::twoJets, x -> x.view(1, MIN, MIN, 0), -4);
        Due.taken("15: from right behind", Gardens::some, x -> x.view(1, 8, 8, 0), 2);
        Due.refused("15: from the last MINUTE", Gardens::some, x -> x.view(1, 7, 8, 0), -4);
        Due.refused("15: from between the VIEWS", Gardens::some, x -> x.view(1, 5, 5, 0), -4);
        Due.refused("15: from 0, a second one", Gardens::some, x -> x.view(1, 0, 0, 0), -4);
        Due.taken("15: behind a VIEW of MINUTE 0", () -> viewed(v(1, 0, 0, 0)), x -> x.view(1, 1, 1, 0), 1);
        Due.refused("15: MINUTE 0 twice", () -> viewed(v(1, 0, 0, 0)), x -> x.view(1, 0, 1, 0), -4);
        FountainNet x = Gardens.twoJets();
        x.minutes(1440);
        Due.due("15: one that has been", x.view(1, 0, 0, 0), 0);
    }

    /** "to below from" */
    private static void toNotBelowFrom() {
        Due.taken("15: to from", Gardens::some, x -> x.view(1, 9, 9, 0), 2);
        Due.refused("15: to one below from", Gardens::some, x -> x.view(1, 9, 8, 0), -4);
        Due.refused("15: to 0", Gardens::some, x -> x.view(1, 9, 0, 0), -4);
        Due.refused("15: to MIN", Gardens::some, x -> x.view(1, 9, MIN, 0), -4);
        Due.refused("15: to MIN from MAX", Gardens::some, x -> x.view(1, MAX, MIN, 0), -4);
    }

    /** "-6 to above 1440" */
    private static void to1440() {
        Due.taken("15: to 1440", Gardens::some, x -> x.view(1, 8, 1440, 0), 2);
        Due.taken("15: from 1440", Gardens::some, x -> x.view(1, 1440, 1440, 0), 2);
        Due.refused("15: to 1441", Gardens::some, x -> x.view(1, 8, 1441, 0), -6);
        Due.refused("15: from 1441", Gardens::some, x -> x.view(1, 1441, 1441, 0), -6);
        Due.refused("15: to MAX", Gardens::some, x -> x.view(1, 8, MAX, 0), -6);
        FountainNet x = viewed(v(1, 0, 1440, 0));
        Due.due("15: none behind 1440", x.view(1, 1440, 1440, 0), -4);
        Due.due("15: nor from 1441", x.view(1, 1441, 1441, 0), -6);
    }

    /** "and a RISE": 0 .. 500 */
    private static void riseOfAView() {
        Due.taken("15: RISE 0", Gardens::some, x -> x.view(1, 8, 8, 0), 2);
        Due.taken("15: RISE 500", Gardens::some, x -> x.view(1, 8, 8, 500), 2);
        Due.refused("15: RISE -1", Gardens::some, x -> x.view(1, 8, 8, -1), -4);
        Due.refused("15: RISE MIN", Gardens::some, x -> x.view(1, 8, 8, MIN), -4);
        Due.refused("15: RISE 501", Gardens::some, x -> x.view(1, 8, 8, 501), -6);
        Due.refused("15: RISE MAX", Gardens::some, x -> x.view(1, 8, 8, MAX), -6);
    }

    private static FountainNet many(int views) {
        FountainNet x = Gardens.twoJets();
        for (int i = 0; i < views; i++) {
            x.view(1 + i % 3, 2 * i, 2 * i + 1, i);
        }
        return x;
    }

    /** "VIEWS have numbers from 0 on (12 at most)" */
    private static void twelveAtMost() {
        for (int n = 0; n < 12; n++) {
            int views = n;
            Due.taken("15: VIEW " + n, () -> many(views), x -> x.view(3, 30, 31, 0), n);
        }
        Due.refused("15: a 13th", () -> many(12), x -> x.view(3, 30, 31, 0), -6);
        Due.refused("15: a 13th, right behind", () -> many(12), x -> x.view(1, 24, 24, 0), -6);
        Due.refused("15: a 13th of a full garden", Gardens::full, x -> x.view(1, 48, 48, 0), -6);
    }

    private static void belowInView() {
        Due.refused("15: from ahead of to", Gardens::some, x -> x.view(1, 7, 6, 0), -4);
        Due.refused("15: all below", Gardens::some, x -> x.view(1, -3, -4, -5), -4);
    }

    /** "-1 ..; -4 ..; -6 .." */
    private static void viewRefusedInOrder() {
        int[][] belows = {v(1, 7, 9, 0), v(1, 9, 8, 0), v(1, 9, 9, -1)};
        int[][] rooms = {v(1, 8, 1441, 0), v(1, 8, 8, 501)};
        for (int[] told : belows) {
            String name = " with " + told[1] + ", " + told[2] + ", " + told[3];
            Due.refused("15: none ahead of BELOW" + name, Gardens::some, x -> x.view(0, told[1], told[2], told[3]), -1);
            Due.refused("15: NOBODY ahead of BELOW" + name, Gardens::some,
                x -> x.view(8, told[1], told[2], told[3]), -1);
        }
        for (int[] told : rooms) {
            String name = " with " + told[1] + ", " + told[2] + ", " + told[3];
            Due.refused("15: none ahead of ROOM" + name, Gardens::some, x -> x.view(0, told[1], told[2], told[3]), -1);
            Due.refused("15: NOBODY ahead of ROOM" + name, Gardens::some,
                x -> x.view(9, told[1], told[2], told[3]), -1);
        }
        Due.refused("15: NOBODY ahead of 12", () -> many(12), x -> x.view(4, 30, 30, 0), -1);
        Due.refused("15: from ahead of to 1441", Gardens::some, x -> x.view(1, 7, 1441, 0), -4);
        Due.refused("15: from ahead of RISE 501", Gardens::some, x -> x.view(1, 7, 9, 501), -4);
        Due.refused("15: to ahead of RISE 501", Gardens::some, x -> x.view(1, 9, 8, 501), -4);
        Due.refused("15: to below from, above 1440", Gardens::some, x -> x.view(1, 1442, 1441, 0), -4);
        Due.refused("15: RISE -1 ahead of to 1441", Gardens::some, x -> x.view(1, 8, 1441, -1), -4);
        Due.refused("15: from ahead of 12", () -> many(12), x -> x.view(1, 23, 24, 0), -4);
        Due.refused("15: to ahead of 12", () -> many(12), x -> x.view(1, 25, 24, 0), -4);
        Due.refused("15: RISE -1 ahead of 12", () -> many(12), x -> x.view(1, 24, 24, -1), -4);
        Due.refused("15: ROOM thrice", () -> many(12), x -> x.view(1, 24, 1441, 501), -6);
    }

    /** "The last VIEW is none any more: how many are left. -3 there is none." */
    private static void unview() {
        FountainNet x = many(12);
        for (int left = 11; left >= 0; left--) {
            Due.due("16: unview()", x.unview(), left);
            Due.due("16: VIEWS", x.count(5), left);
        }
        Due.due("16: none is left", x.unview(), -3);
        Due.due("16: from 0 on again", x.view(1, 0, 0, 0), 0);
        Due.refused("16: none told", FountainNet::new, FountainNet::unview, -3);
        Due.refused("16: none told yet", Gardens::twoJets, FountainNet::unview, -3);
        FountainNet y = Gardens.some();
        y.unview();
        Due.due("16: from behind the one that is left", y.view(1, 5, 5, 0), 1);
        y.unview();
        Due.due("16: not from its last MINUTE", y.view(1, 4, 5, 0), -4);
        y.minutes(9);
        Due.due("16: one that has been", y.unview(), 0);
    }

    /** "at which a JET of it has less RISE than told" */
    private static void lessRiseThanTold() {
        found("17: as much RISE", viewed(v(1, 0, 0, 86)), -9, -9, -9, 5, 55);
        found("17: one less", viewed(v(1, 0, 0, 87)), 0, 0, 0, 0, 60);
        found("17: RISE 0 of a JET that has none", dry(v(3, 0, 2, 0)), -9, -9, -9, 0, 0);
        found("17: RISE 1 of a JET that has none", dry(v(3, 0, 2, 1)), 0, 0, 0, 0, 0);
        FountainNet x = new FountainNet();
        x.tank(496, 1000, 60, 0);
        x.joint(true, 0, 0, 9, 1);
        x.jet(0, 1);
        x.view(1, 0, 0, 500);
        // LEVEL 556: 500; with one measure less 555: 499
        found("17: RISE 500", x, -9, -9, -9, 1, 59999);
        x.set(0, 1, 59999);
        found("17: RISE 499", x, 0, 0, 0, 0, 59999);
    }

    private static FountainNet dry(int[] view) {
        FountainNet x = viewed(view);
        x.set(0, 1, 0);
        return x;
    }

    /** "each MINUTE: first RISES are looked at, then the MINUTE passes" */
    private static void risesFirst() {
        FountainNet x = viewed(v(1, 0, 5, 81));
        x.set(0, 1, 4);
        // LEVEL 100: 81 at MINUTE 0; then DRY
        found("17: then it is DRY", x, 1, 0, 0, 4, 0);
        x.set(0, 1, 5);
        found("17: just so much", x, 1, 0, 0, 5, 0);
        x.set(0, 1, 6);
        found("17: one more", x, 2, 0, 0, 6, 0);
        FountainNet y = viewed(v(1, 0, 5, 1));
        y.set(0, 1, 0);
        y.set(0, 0, 50);
        found("17: its SPRING comes too late", y, 0, 0, 0, 0, 0);
    }

    /** "the first MINUTE of a VIEW at which ..", the first and the last one too */
    private static void lastMinuteOfAView() {
        // 60, 55, 50: LEVELS 106, 105, 105; 45: 104
        found("17: 86, 85, 85", viewed(v(1, 0, 2, 85)), -9, -9, -9, 15, 45);
        found("17: then 84", viewed(v(1, 0, 3, 85)), 3, 0, 0, 15, 45);
        found("17: the first MINUTE", viewed(v(1, 0, 3, 87)), 0, 0, 0, 0, 60);
        found("17: the second VIEW's first MINUTE", viewed(v(1, 0, 2, 85), v(1, 3, 3, 85)), 3, 1, 0, 15, 45);
        found("17: its RISE counts, not the first one's", viewed(v(1, 0, 2, 85), v(1, 3, 3, 84)),
            -9, -9, -9, 20, 40);
    }

    /** "in a VIEW just its JETS PLAY, between VIEWS none" */
    private static void justItsJets() {
        FountainNet x = viewed(v(1, 1, 2, 70), v(2, 5, 5, 70));
        x.play(0, true);
        x.play(1, true);
        found("17: each its own", x, -9, -9, -9, 17, 43);
        FountainNet y = viewed(v(1, 0, 0, 80), v(1, 2, 2, 80));
        found("17: JET 1 would have less, but isn't of it", y, -9, -9, -9, 10, 50);
        y.unview();
        y.unview();
        y.view(3, 0, 0, 80);
        found("17: now it is", y, 0, 0, 1, 0, 60);
        FountainNet z = viewed(v(1, 0, 0, 80), v(2, 4, 4, 77));
        // between both none: 55 is LEVEL 105, 85 by 9 tenths is 76
        found("17: between both WATER stays", z, 4, 1, 1, 5, 55);
    }

    /** "2 the JET (the least)", "1 the VIEW" */
    private static void leastJetOfTheView() {
        found("17: both have less", viewed(v(3, 0, 0, 90)), 0, 0, 0, 0, 60);
        found("17: the second has less", viewed(v(3, 0, 0, 80)), 0, 0, 1, 0, 60);
        found("17: the second alone", viewed(v(2, 0, 0, 90)), 0, 0, 1, 0, 60);
        FountainNet x = many(12);
        x.set(0, 0, 500);
        x.unview();
        x.view(2, 22, 22, 90);
        Due.row("17: the last VIEW", 0, 2, x::walk, 22, 11, 1);
        FountainNet y = manyJets(24);
        y.view(1 << 23, 0, 0, 500);
        Due.row("17: the last JET", 0, 2, y::walk, 0, 0, 23);
    }

    /** "from now on"; "MINUTE m being the one that is now" */
    private static void fromNowOn() {
        FountainNet x = viewed(v(1, 0, 2, 500), v(3, 3, 4, 70));
        Due.due("17: at MINUTE 0", x.walk(0), 0);
        x.minutes(2);
        Due.due("17: at its last MINUTE", x.walk(0), 2);
        x.minutes(1);
        found("17: right behind it", x, -9, -9, -9, 24, 36);
        x.minutes(1);
        found("17: in the midst of the second", x, -9, -9, -9, 12, 48);
    }

    /** "on what there is as it is": WATER, SPRING, LEAKS, SIZES, EMPTY PIPES, and JETS told later. */
    private static void onWhatThereIs() {
        FountainNet x = new FountainNet();
        x.tank(100, 10, 6, 0);
        x.joint(true, 0, 10, 9, 200);
        x.jet(0, 5);
        x.view(1, 0, 1, 85);
        found("17: LEVELS 106 and 105", x, -9, -9, -9, 10, 50);
        x.set(0, 1, 40);
        found("17: other WATER", x, 0, 0, 0, 0, 40);
        x.set(0, 1, 60);
        x.set(0, 0, 3);
        found("17: a SPRING", x, -9, -9, -9, 10, 53);
        x.set(0, 0, 0);
        x.joint(true, 0, 0, 9, 1);
        x.leak(1, 7);
        found("17: a LEAK", x, 1, 0, 0, 12, 48);
        x.leak(1, 0);
        x.pipe(0, 1);
        // LOSS 25 times 200 by 100
        Due.due("18: another SIZE", x.most(), 9 * (105 - 50 - 10) / 10);
        x.pipe(0, 9);
        x.jet(1, 50);
        found("17: a JET that isn't of the VIEW", x, -9, -9, -9, 10, 50);
        x.empty(0);
        found("17: an EMPTY PIPE", x, 0, 0, 0, 0, 60);
        x.fill(0);
        found("17: FILLED again", x, -9, -9, -9, 10, 50);
    }

    private static void minutesAheadOfAView() {
        FountainNet x = viewed(v(1, 3, 3, 86));
        x.set(0, 1, 0);
        x.set(0, 0, 20);
        found("17: it springs till then", x, -9, -9, -9, 5, 0);
        x.minutes(1);
        // 20; then 40, 60: as full as it may be
        found("17: from MINUTE 1 on", x, -9, -9, -9, 5, 20);
        FountainNet y = viewed(v(1, 3, 3, 0));
        y.leak(1, 2);
        found("17: a LEAK flows till then", y, -9, -9, -9, 13, 47);
    }

    /** "or it comes to its end (behind the last VIEW)" */
    private static void toItsEnd() {
        found("17: the last MINUTE passes, too", viewed(v(1, 0, 0, 0)), -9, -9, -9, 5, 55);
        FountainNet x = viewed(v(1, 1440, 1440, 0));
        x.leak(1, 1);
        x.set(0, 0, 1);
        found("17: to MINUTE 1440", x, -9, -9, -9, 1446, 54);
        x.minutes(1440);
        found("17: at MINUTE 1440", x, -9, -9, -9, 6, 54);
        FountainNet y = viewed(v(1, 0, 1440, 0));
        found("17: of all MINUTES", y, -9, -9, -9, 60, 0);
    }

    /** "what flowed out of all TANKS together till its end (or till it FAILS)" */
    private static void waterOfTheWalk() {
        FountainNet x = viewed(v(3, 0, 9, 0));
        found("17: what LACKS didn't flow", x, -9, -9, -9, 60, 0);
        x.set(0, 0, 20);
        found("17: what is SPILLED didn't flow out", x, -9, -9, -9, 120, 48);
        x.tank(100, 3, 1, 0);
        x.joint(true, 1, 0, 9, 1);
        x.leak(2, 2);
        found("17: of a TANK without JETS", x, -9, -9, -9, 123, 0);
        x.view(3, 10, 10, 500);
        found("17: till it FAILS", x, 10, 1, 0, 123, 0);
    }

    /** "4 the least WATER that any TANK has now, or behind any MINUTE of it" */
    private static void leastWater() {
        FountainNet x = viewed(v(1, 0, 0, 0));
        x.set(0, 0, 30);
        x.set(0, 1, 7);
        Due.due("17: now it is the least", x.walk(4), 7);
        x.set(0, 0, 4);
        Due.due("17: behind MINUTE 0", x.walk(4), 6);
        x.set(0, 0, 5);
        Due.due("17: the same", x.walk(4), 7);
        x.tank(0, 1, 6, 0);
        Due.due("17: of another TANK", x.walk(4), 6);
        x.set(1, 1, 0);
        Due.due("17: of one without WATER", x.walk(4), 0);
        FountainNet y = viewed(v(3, 0, 1, 0), v(1, 2, 2, 500));
        Due.due("17: behind the MINUTE ahead of failing", y.walk(4), 36);
        FountainNet z = new FountainNet();
        z.tank(0, 1000, 60, 0);
        z.joint(true, 0, 0, 9, 1);
        z.jet(0, 1);
        z.view(1, 0, 0, 500);
        Due.due("17: the greatest WATER", z.walk(4), 60000);
    }

    /** "PIPES that are EMPTY, and all that come from their JOINTS, have no FLOW" */
    private static void emptyPipes() {
        FountainNet x = viewed(v(3, 0, 1, 0));
        x.leak(1, 9);
        x.empty(1);
        found("17: no FLOW behind it", x, -9, -9, -9, 10, 50);
        Due.due("18: no RISE", x.most(), 0);
        x.unview();
        x.view(3, 0, 1, 1);
        found("17: DRY", x, 0, 0, 1, 0, 60);
        x.fill(1);
        found("17: FILLED", x, -9, -9, -9, 42, 18);
    }

    /** "nothing changes" */
    private static void nothingChanges() {
        FountainNet x = Gardens.full();
        FountainNet y = Gardens.full();
        for (int w = 0; w < 5; w++) {
            x.walk(w);
        }
        x.most();
        for (int i = 0; i < 4; i++) {
            for (int w = 0; w < 6; w++) {
                Due.due("17: then tankOf(" + i + ", " + w + ")", x.tankOf(i, w), y.tankOf(i, w));
            }
        }
        for (int i = 0; i < 24; i++) {
            Due.due("17: then rise(" + i + ")", x.rise(i), y.rise(i));
        }
        Due.row("17: then count", 0, 6, x::count, 2, 4, 30, 24, 23, 12, 1);
    }

    /** "-2; -3 no VIEW ends now or later." */
    private static void walkRefusedInOrder() {
        Due.whats("17: walk", Gardens::some, 4, (x, w) -> x.walk(w));
        Due.refused("17: none told", FountainNet::new, x -> x.walk(0), -3);
        Due.refused("17: no VIEW told", Gardens::twoJets, x -> x.walk(4), -3);
        Due.refused("17: OTHER ahead of STATE", Gardens::twoJets, x -> x.walk(5), -2);
        Due.refused("17: OTHER ahead of STATE, below", Gardens::twoJets, x -> x.walk(-1), -2);
        Due.refused("18: none told", FountainNet::new, FountainNet::most, -3);
        Due.refused("18: no VIEW told", Gardens::twoJets, FountainNet::most, -3);
    }

    private static FountainNet at(int minute) {
        FountainNet x = viewed(v(1, 1, 2, 0), v(1, 5, 6, 0));
        x.minutes(minute);
        return x;
    }

    private static void noViewNowOrLater() {
        Due.taken("17: one begins now", () -> at(5), x -> x.walk(0), -9);
        Due.taken("17: one ends now", () -> at(6), x -> x.walk(0), -9);
        Due.taken("18: one ends now", () -> at(6), FountainNet::most, 86);
        Due.refused("17: one ended right now", () -> at(7), x -> x.walk(0), -3);
        Due.refused("18: one ended right now", () -> at(7), FountainNet::most, -3);
        Due.refused("17: all are long gone", () -> at(1440), x -> x.walk(3), -3);
        FountainNet x = at(7);
        x.view(1, 7, 7, 0);
        Due.due("17: one of now is told", x.walk(1), -9);
        x.unview();
        Due.due("17: and is none any more", x.walk(1), -3);
    }

    /** "The greatest RISE (0 .. 500) that could be told for all VIEWS so that it doesn't FAIL" */
    private static void most() {
        for (int rise : new int[] {75, 76}) {
            FountainNet x = viewed(v(1, 0, 0, 500), v(3, 3, 3, 500));
            // LEVELS 106 and 105: 86, then 85 and 76
            Due.due("18: most()", x.most(), 76);
            x.unview();
            x.unview();
            x.view(1, 0, 0, rise);
            x.view(3, 3, 3, rise);
            Due.due("18: that doesn't FAIL", x.walk(0), -9);
        }
        found("18: one more does", viewed(v(1, 0, 0, 77), v(3, 3, 3, 77)), 3, 1, 1, 5, 55);
        Due.due("18: the first VIEW alone", viewed(v(1, 0, 0, 0)).most(), 86);
        Due.due("18: the last MINUTE is the worst", viewed(v(3, 0, 1, 0)).most(), 75);
        FountainNet y = viewed(v(2, 0, 0, 0), v(1, 1, 1, 0));
        Due.due("18: the first VIEW is the worst", y.most(), 77);
        y.minutes(1);
        Due.due("18: but is gone", y.most(), 86);
    }

    /** "(VIEWS' own RISES aside ..)" */
    private static void mostAside() {
        Due.due("18: own RISES of 500", viewed(v(3, 0, 4, 500), v(1, 5, 9, 500)).most(),
            viewed(v(3, 0, 4, 0), v(1, 5, 9, 0)).most());
        FountainNet x = viewed(v(3, 0, 4, 500));
        x.most();
        Due.due("18: they are as they were", x.walk(0), 0);
    }

    private static FountainNet high(int floor, int height) {
        FountainNet x = new FountainNet();
        x.tank(floor, 1000, 1, 0);
        x.joint(true, 0, height, 9, 1);
        x.jet(0, 1);
        x.view(1, 0, 0, 0);
        return x;
    }

    /** "(0 .. 500)"; "what is more than 500 is 500" */
    private static void mostAtItsEnds() {
        Due.due("18: HEAD 496", high(495, 0).most(), 446);
        FountainNet x = new FountainNet();
        x.tank(500, 1000, 60, 0);
        x.joint(true, 0, 0, 9, 1);
        x.jet(0, 1);
        x.view(1, 0, 0, 0);
        int[][] due = {{55000, 499}, {55999, 499}, {56000, 500}, {57000, 500}, {58000, 500}, {60000, 500}};
        for (int[] waterAndRise : due) {
            x.set(0, 1, waterAndRise[0]);
            Due.due("18: with WATER " + waterAndRise[0], x.most(), waterAndRise[1]);
        }
        Due.due("18: HEAD 2", high(9, 8).most(), 1);
        Due.due("18: HEAD 1", high(9, 9).most(), 0);
        Due.due("18: HEAD below 0", high(9, 500).most(), 0);
        FountainNet y = high(9, 0);
        y.set(0, 1, 0);
        Due.due("18: DRY", y.most(), 0);
    }
}
