/** Promises 5, 6, 11 and 12, and the terms of JETS: a test for each sentence that names an edge. */
public final class JetEdgesTest {
    private static final int MIN = Integer.MIN_VALUE;
    private static final int MAX = Integer.MAX_VALUE;

    public static void main(String[] args) {
        draw();
        atAJoint();
        oneAtMost();
        twentyFourAtMost();
        jetRefusedInOrder();
        shutAtFirst();
        play();
        playBehindEmptyOnes();
        riseIsCut();
        riseOfDryOnes();
        greatestRise();
        share();
        shareOfRisesBelowNothing();
        shareRefusedInOrder();
        Due.end("JetEdgesTest");
    }

    /** JOINTS from one TANK of LEVEL 100, of HEIGHT 0 without LOSS, the first ones with JETS. */
    private static FountainNet star(int joints, int jets) {
        FountainNet x = new FountainNet();
        x.tank(90, 10, 10, 0);
        for (int j = 0; j < joints; j++) {
            x.joint(true, 0, 0, 9, 1);
        }
        for (int i = 0; i < jets; i++) {
            x.jet(i, 1);
        }
        return x;
    }

    /** "with a DRAW (1 .. 60 measures a minute)" */
    private static void draw() {
        Due.range("5: DRAW", () -> star(1, 0), 1, 60, 0, (x, v) -> x.jet(0, v), x -> x.play(0, true) * x.flow(0));
        Due.range("5: DRAW of another", Gardens::some, 1, 60, 3, (x, v) -> x.jet(4, v),
            x -> x.play(3, true) * x.flow(4));
    }

    /** "at a JOINT": "-1" */
    private static void atAJoint() {
        Due.number("5: jet", Gardens::some, 5, (x, i) -> x.jet(i, 1));
        Due.number("5: jet, none told", () -> star(0, 0), 0, (x, i) -> x.jet(i, 1));
        Due.number("5: jet, all told", Gardens::full, 30, (x, i) -> x.jet(i, 1));
        Due.taken("5: at the last of 30", () -> star(30, 0), x -> x.jet(29, 1), 0);
        FountainNet x = star(1, 0);
        x.empty(0);
        Due.due("5: where the PIPE is EMPTY", x.jet(0, 1), 0);
    }

    /** "(one at most)": "-3 the JOINT has one" */
    private static void oneAtMost() {
        Due.refused("5: a second one", Gardens::some, x -> x.jet(0, 1), -3);
        Due.refused("5: a second one where the PIPE is EMPTY", Gardens::some, x -> x.jet(3, 1), -3);
        Due.taken("5: where none is", Gardens::some, x -> x.jet(4, 1), 3);
        FountainNet x = Gardens.some();
        x.jet(4, 1);
        Due.due("5: a second one then", x.jet(4, 1), -3);
    }

    /** "JETS have numbers from 0 on (24 at most)" */
    private static void twentyFourAtMost() {
        Due.taken("5: the first", () -> star(30, 0), x -> x.jet(29, 60), 0);
        Due.taken("5: the last", () -> star(30, 23), x -> x.jet(29, 60), 23);
        Due.refused("5: a 25th", () -> star(30, 24), x -> x.jet(29, 60), -6);
        Due.refused("5: a 25th of a full garden", Gardens::full, x -> x.jet(0, 1), -6);
    }

    /** "-1; -3 the JOINT has one; -4; -6 (24, too)" */
    private static void jetRefusedInOrder() {
        Due.refused("5: NOBODY ahead of BELOW", Gardens::some, x -> x.jet(5, 0), -1);
        Due.refused("5: NOBODY ahead of ROOM", Gardens::some, x -> x.jet(-1, 61), -1);
        Due.refused("5: NOBODY ahead of 24", () -> star(30, 24), x -> x.jet(30, 1), -1);
        Due.refused("5: STATE ahead of BELOW", Gardens::some, x -> x.jet(0, 0), -3);
        Due.refused("5: STATE ahead of ROOM", Gardens::some, x -> x.jet(0, 61), -3);
        Due.refused("5: STATE ahead of 24", () -> star(30, 24), x -> x.jet(0, 1), -3);
        Due.refused("5: BELOW ahead of 24", () -> star(30, 24), x -> x.jet(29, 0), -4);
        Due.refused("5: ROOM twice", () -> star(30, 24), x -> x.jet(29, 61), -6);
    }

    /** "They are SHUT at first, or PLAY." */
    private static void shutAtFirst() {
        FountainNet x = star(2, 2);
        Due.due("5: none PLAYS", x.count(4), 0);
        Due.due("5: no RISE", x.rise(0), 0);
        Due.due("5: no FLOW", x.flow(0), 0);
        Due.due("6: it is SHUT", x.play(1, false), 0);
    }

    /** "A JET PLAYS, or not: 1; 0 if it was so. -1" */
    private static void play() {
        Due.taken("6: a SHUT one to PLAY", () -> star(1, 1), x -> x.play(0, true), 1);
        Due.taken("6: a SHUT one to be SHUT", () -> star(1, 1), x -> x.play(0, false), 0);
        Due.taken("6: one that PLAYS to PLAY", Gardens::some, x -> x.play(1, true), 0);
        Due.taken("6: one that PLAYS to be SHUT", Gardens::some, x -> x.play(1, false), 1);
        Due.number("6: play", Gardens::some, 3, (x, i) -> x.play(i, true));
        Due.number("6: to be SHUT", Gardens::some, 3, (x, i) -> x.play(i, false));
        Due.number("6: play, none told", () -> star(1, 0), 0, (x, i) -> x.play(i, true));
        Due.number("6: play, all told", Gardens::full, 24, (x, i) -> x.play(i, true));
        FountainNet x = star(24, 24);
        for (int i = 0; i < 24; i++) {
            Due.due("6: play(" + i + ", true)", x.play(i, true), 1);
            Due.due("6: then PLAY", x.count(4), i + 1);
        }
        Due.due("6: the last to be SHUT", x.play(23, false), 1);
        Due.due("6: then PLAY", x.count(4), 23);
    }

    /** "-3 to PLAY: a PIPE to it is EMPTY" */
    private static void playBehindEmptyOnes() {
        Due.refused("6: its PIPE is EMPTY", Gardens::some, x -> x.play(2, true), -3);
        Due.taken("6: but to be SHUT", Gardens::some, x -> x.play(2, false), 0);
        FountainNet x = Gardens.some();
        x.empty(2);
        Due.due("6: both PIPES are", x.play(2, true), -3);
        x.fill(2);
        Due.due("6: still its own", x.play(2, true), -3);
        x.fill(3);
        Due.due("6: both are FILLED", x.play(2, true), 1);
    }

    /** "9 tenths of its HEAD, cut, 0 at least; of one that is SHUT 0" */
    private static void riseIsCut() {
        int[] heights = {102, 101, 100, 99, 98, 91, 90, 89, 0};
        int[] rises = {0, 0, 0, 0, 1, 8, 9, 9, 90};
        FountainNet x = star(0, 0);
        for (int j = 0; j < heights.length; j++) {
            x.joint(true, 0, heights[j], 9, 1);
            x.jet(j, 1);
            x.play(j, true);
        }
        Due.row("11: HEADS", 0, 8, x::head, -2, -1, 0, 1, 2, 9, 10, 11, 100);
        Due.row("11: RISES", 0, 8, x::rise, rises);
        x.play(8, false);
        Due.due("11: SHUT", x.rise(8), 0);
        Due.due("11: but HEAD", x.head(8), 100);
        Due.number("11: rise", Gardens::some, 3, (y, i) -> y.rise(i));
        Due.number("11: rise, none told", () -> star(1, 0), 0, (y, i) -> y.rise(i));
        Due.number("11: rise, all told", Gardens::full, 24, (y, i) -> y.rise(i));
    }

    private static void riseOfDryOnes() {
        FountainNet x = star(1, 1);
        x.play(0, true);
        x.set(0, 1, 1);
        Due.due("11: WATER 1", x.rise(0), 81);
        x.set(0, 1, 0);
        Due.due("11: no WATER", x.rise(0), 0);
        Due.due("11: it PLAYS on", x.count(4), 1);
        Due.due("9: and draws", x.flow(0), 1);
    }

    private static void greatestRise() {
        FountainNet x = new FountainNet();
        x.tank(500, 1, 60, 0);
        x.joint(true, 0, 0, 9, 1);
        x.jet(0, 1);
        x.play(0, true);
        Due.due("11: the greatest", x.rise(0), 504);
    }

    /** JETS 0, 1 and 2 of DRAW 2, 3 and 1, which PLAY: 0 and 1 behind one PIPE, whose LOSS is FLOW times FLOW. */
    private static FountainNet fork() {
        FountainNet x = star(0, 0);
        x.joint(true, 0, 0, 1, 100);
        x.joint(false, 0, 40, 9, 1);
        x.joint(false, 0, 90, 9, 1);
        x.joint(true, 0, 0, 9, 1);
        x.jet(1, 2);
        x.jet(2, 3);
        x.jet(3, 1);
        for (int i = 0; i < 3; i++) {
            x.play(i, true);
        }
        return x;
    }

    /** "By how much the RISE of a JET that PLAYS would be greater if another one (that PLAYS) were SHUT." */
    private static void share() {
        // 60, less 25 or less 4: 9 tenths of 35 and of 56
        Due.taken("12: of JET 1", JetEdgesTest::fork, x -> x.share(0, 1), 50 - 31);
        Due.taken("12: of a JET aside", JetEdgesTest::fork, x -> x.share(0, 2), 0);
        Due.taken("12: to a JET aside", JetEdgesTest::fork, x -> x.share(2, 1), 0);
        FountainNet x = fork();
        x.leak(0, 1);
        // 60, less 36 or less 9: the LEAK flows on
        Due.due("12: with a LEAK", x.share(0, 1), 45 - 21);
        x.set(0, 1, 0);
        Due.due("12: DRY", x.share(0, 1), 0);
        x.set(0, 1, 1);
        // LEVEL 90
        Due.due("12: WATER 1", x.share(0, 1), 36 - 12);
    }

    private static void shareOfRisesBelowNothing() {
        // 10, less 25 or less 9: HEADS of -15 and 1
        Due.taken("12: 0 to 0", JetEdgesTest::fork, x -> x.share(1, 0), 0);
        FountainNet x = fork();
        x.leak(0, 1);
        // 6 times 6 and 4 times 4
        Due.due("12: 0 to 0 by a LEAK", x.share(1, 0), 0);
        FountainNet y = fork();
        y.pipe(0, 2);
        // 10, less 6, is 4: 3; less 2, is 8: 7
        Due.due("12: of a greater SIZE", y.share(1, 0), 4);
        FountainNet z = new FountainNet();
        z.tank(91, 10, 10, 0);
        z.joint(true, 0, 0, 1, 100);
        z.joint(false, 0, 90, 9, 1);
        z.joint(false, 0, 0, 9, 1);
        z.jet(1, 3);
        z.jet(2, 2);
        z.play(0, true);
        z.play(1, true);
        // 11, less 25 or less 9: HEADS of -14 and 2
        Due.due("12: from a HEAD below 0", z.share(0, 1), 1);
    }

    /** "-1 (also if they are one); -3 one of both doesn't PLAY" */
    private static void shareRefusedInOrder() {
        Due.number("12: share", Gardens::some, 3, (x, i) -> x.share(i, 1));
        Due.number("12: share of the other", Gardens::some, 3, (x, i) -> x.share(1, i));
        Due.number("12: share, none told", () -> star(1, 0), 0, (x, i) -> x.share(i, 0));
        Due.number("12: share, all told", Gardens::full, 24, (x, i) -> x.share(i, 1));
        Due.number("12: share, the other of all told", Gardens::full, 24, (x, i) -> x.share(1, i));
        // LEVEL 104, HEIGHT 10, LOSSES 18 and 3
        Due.taken("12: of two that PLAY", Gardens::some, x -> x.share(0, 1), 81 - 68);
        Due.refused("12: they are one", Gardens::some, x -> x.share(1, 1), -1);
        Due.refused("12: they are one that is SHUT", Gardens::some, x -> x.share(2, 2), -1);
        Due.refused("12: they are none", Gardens::some, x -> x.share(-1, -1), -1);
        Due.refused("12: the one is SHUT", Gardens::some, x -> x.share(2, 1), -3);
        Due.refused("12: the other is SHUT", Gardens::some, x -> x.share(1, 2), -3);
        Due.refused("12: both are SHUT", () -> star(2, 2), x -> x.share(0, 1), -3);
        Due.refused("12: NOBODY ahead of STATE", Gardens::some, x -> x.share(2, 3), -1);
        Due.refused("12: NOBODY ahead of STATE of the other", Gardens::some, x -> x.share(3, 2), -1);
        Due.refused("12: both far off", Gardens::some, x -> x.share(MIN, MAX), -1);
    }
}
