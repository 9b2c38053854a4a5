/** Promises 5, 6, 11 and 12: JETS. */
public final class JetsTest {
    private static final int MIN = Integer.MIN_VALUE;
    private static final int MAX = Integer.MAX_VALUE;

    public static void main(String[] args) {
        jet();
        mostJets();
        play();
        rise();
        share();
        shareOfOtherTanks();
        Due.end("JetsTest");
    }

    /** Two JETS, the first one plays, behind one PIPE; JOINT 3 has no JET, 4 has JET 2 and an EMPTY PIPE. */
    private static FountainNet pair() {
        FountainNet x = new FountainNet();
        x.tank(90, 10, 10, 0);
        x.joint(true, 0, 0, 1, 10);
        x.joint(false, 0, 10, 2, 3);
        x.joint(false, 0, 50, 2, 3);
        x.joint(true, 0, 0, 1, 1);
        x.joint(true, 0, 0, 1, 1);
        x.jet(1, 10);
        x.jet(2, 12);
        x.jet(4, 1);
        x.play(0, true);
        x.empty(4);
        return x;
    }

    private static void jet() {
        FountainNet x = new FountainNet();
        x.tank(10, 1, 1, 0);
        x.joint(true, 0, 0, 9, 1);
        x.joint(true, 0, 0, 9, 1);
        Due.due("5: the least", x.jet(1, 1), 0);
        Due.due("5: the greatest", x.jet(0, 60), 1);
        Due.due("5: SHUT at first", x.count(4), 0);
        Due.due("5: no FLOW", x.flow(0) + x.flow(1), 0);
        Due.due("5: at 0", x.jointOf(0, 5), 1);
        Due.due("5: at 1", x.jointOf(1, 5), 0);
        x.play(1, true);
        Due.due("5: DRAW", x.flow(0), 60);
        Due.refused("5: no JOINT", JetsTest::pair, y -> y.jet(5, 0), -1);
        Due.refused("5: JOINT -1", JetsTest::pair, y -> y.jet(-1, 1), -1);
        Due.refused("5: JOINT MAX", JetsTest::pair, y -> y.jet(MAX, 1), -1);
        Due.refused("5: it has one", JetsTest::pair, y -> y.jet(1, 5), -3);
        Due.refused("5: it has one, draw 0", JetsTest::pair, y -> y.jet(1, 0), -3);
        Due.refused("5: draw 0", JetsTest::pair, y -> y.jet(3, 0), -4);
        Due.refused("5: draw MIN", JetsTest::pair, y -> y.jet(3, MIN), -4);
        Due.refused("5: draw 61", JetsTest::pair, y -> y.jet(3, 61), -6);
    }

    private static void mostJets() {
        FountainNet x = new FountainNet();
        x.tank(500, 1, 1, 0);
        for (int j = 0; j < 30; j++) {
            x.joint(true, 0, 0, 9, 1);
        }
        for (int i = 0; i < 24; i++) {
            Due.due("5: jet " + i, x.jet(29 - i, 1 + i), i);
        }
        Due.due("5: a 25th", x.jet(0, 1), -6);
        Due.due("5: a 25th, draw 0", x.jet(0, 0), -4);
        Due.due("5: a 25th where one is", x.jet(29, 1), -3);
        Due.due("5: a JET at an EMPTY PIPE has its number", x.empty(6), 1);
        for (int i = 0; i < 23; i++) {
            Due.due("6: play(" + i + ", true)", x.play(i, true), 1);
        }
        Due.due("6: play(23, true)", x.play(23, true), -3);
        x.fill(6);
        Due.due("6: FILLED, play(23, true)", x.play(23, true), 1);
        Due.due("33: count(4)", x.count(4), 24);
        Due.due("9: the last one's FLOW", x.flow(6), 24);
        Due.due("15: a VIEW of all", x.view((1 << 24) - 1, 0, 0, 0), 0);
        Due.due("15: a VIEW of a 25th", x.view(1 << 24, 1, 1, 0), -1);
    }

    private static void play() {
        FountainNet x = pair();
        Due.due("6: it plays", x.play(0, true), 0);
        Due.due("6: to SHUT", x.play(0, false), 1);
        Due.due("6: it is SHUT", x.play(0, false), 0);
        Due.due("6: to PLAY", x.play(0, true), 1);
        Due.due("6: the other", x.play(1, true), 1);
        Due.due("6: both", x.count(4), 2);
        Due.due("6: to SHUT an EMPTY one", x.play(2, false), 0);
        Due.refused("6: no JET", JetsTest::pair, y -> y.play(3, true), -1);
        Due.refused("6: JET -1", JetsTest::pair, y -> y.play(-1, false), -1);
        Due.refused("6: JET MAX", JetsTest::pair, y -> y.play(MAX, true), -1);
        Due.refused("6: JET MIN", JetsTest::pair, y -> y.play(MIN, true), -1);
        Due.refused("6: an EMPTY PIPE", JetsTest::pair, y -> y.play(2, true), -3);
    }

    private static void rise() {
        FountainNet x = pair();
        // 100, less 10 * 10 * 10 by 100, less 300 by 400, less 10
        Due.due("11: rise(0)", x.rise(0), 72);
        Due.due("11: SHUT", x.rise(1), 0);
        x.play(1, true);
        // 22 * 22 * 10 by 100 is 48; 144 * 3 by 400 is 1
        Due.due("11: 9 tenths of 42", x.rise(0), 37);
        Due.due("11: 9 tenths of 1, cut", x.rise(1), 0);
        x.pipe(0, 2);
        Due.due("11: 9 tenths of 37", x.rise(1), 33);
        x.leak(0, 60);
        Due.due("11: HEAD below 0", x.head(1) < 0 ? 1 : 0, 1);
        Due.due("11: no RISE", x.rise(0), 0);
        Due.refused("11: no JET", JetsTest::pair, y -> y.rise(3), -1);
        Due.refused("11: JET -1", JetsTest::pair, y -> y.rise(-1), -1);
        Due.refused("11: JET MAX", JetsTest::pair, y -> y.rise(MAX), -1);
    }

    private static void share() {
        FountainNet x = pair();
        x.play(1, true);
        Due.due("12: share(0, 1)", x.share(0, 1), 72 - 37);
        // alone: 100, less 14, less 1, less 50, is 35
        Due.due("12: share(1, 0)", x.share(1, 0), 31);
        Due.due("12: both PLAY on", x.count(4), 2);
        Due.due("12: RISE as it was", x.rise(0), 37);
        x.leak(0, 1);
        // 23 * 23 by 10 is 52, 11 * 11 by 10 is 12
        Due.due("12: with a LEAK", x.share(0, 1), 9 * 78 / 10 - 9 * 38 / 10);
        Due.refused("12: one is no JET", JetsTest::pair, y -> y.share(0, 3), -1);
        Due.refused("12: the other is none", JetsTest::pair, y -> y.share(-1, 0), -1);
        Due.refused("12: the same", JetsTest::pair, y -> y.share(0, 0), -1);
        Due.refused("12: the same, SHUT", JetsTest::pair, y -> y.share(1, 1), -1);
        Due.refused("12: the other is SHUT", JetsTest::pair, y -> y.share(0, 1), -3);
        Due.refused("12: the one is SHUT", JetsTest::pair, y -> y.share(1, 0), -3);
        Due.refused("12: both are SHUT", JetsTest::pair, y -> y.share(1, 2), -3);
        Due.refused("12: MIN and MAX", JetsTest::pair, y -> y.share(MIN, MAX), -1);
    }

    private static void shareOfOtherTanks() {
        FountainNet x = new FountainNet();
        x.tank(90, 10, 10, 0);
        x.tank(90, 10, 10, 0);
        x.joint(true, 0, 0, 1, 10);
        x.joint(true, 1, 0, 1, 10);
        x.jet(0, 20);
        x.jet(1, 20);
        x.play(0, true);
        x.play(1, true);
        Due.due("12: of another TANK", x.share(0, 1), 0);
        Due.due("11: its RISE", x.rise(0), 54);
    }
}
