/** Gardens in which nothing is as at first, for tests that see that a refused call leaves all as it was. */
final class Gardens {
    static final int ALL_JETS = (1 << 24) - 1;

    private Gardens() {
    }

    /**
     * 2 TANKS; JOINTS 0 from TANK 0, 1 from 0, 2 from TANK 1, 3 from 2 (EMPTY), 4 from 1 (without a JET);
     * JETS 0 at 0 and 1 at 1, which PLAY, and 2 at 3; 2 VIEWS, the last MINUTE 7; MINUTE 1.
     */
    static FountainNet some() {
        FountainNet x = new FountainNet();
        x.tank(100, 10, 6, 2);
        x.tank(60, 5, 8, 0);
        x.joint(true, 0, 10, 2, 50);
        x.joint(false, 0, 20, 3, 40);
        x.joint(true, 1, 5, 1, 9);
        x.joint(false, 2, 0, 4, 7);
        x.joint(false, 1, 30, 2, 10);
        x.jet(0, 5);
        x.jet(1, 7);
        x.jet(3, 4);
        x.play(0, true);
        x.play(1, true);
        x.leak(2, 1);
        x.leak(3, 2);
        x.gauge(0, 76);
        x.gauge(1, 70);
        x.tol(2);
        x.pace(3);
        x.view(1, 2, 4, 30);
        x.view(3, 6, 7, 40);
        x.empty(3);
        x.minutes(1);
        return x;
    }

    /** A TANK of 60 of LEVEL 106, no LOSS; JET 0 draws 5 at 10 feet (RISE 86), JET 1 draws 7 at 20 (RISE 77). */
    static FountainNet twoJets() {
        FountainNet x = new FountainNet();
        x.tank(100, 10, 6, 0);
        x.joint(true, 0, 10, 9, 1);
        x.joint(true, 0, 20, 9, 1);
        x.jet(0, 5);
        x.jet(1, 7);
        return x;
    }

    /**
     * PIPES from a TANK of such a FLOOR, of SIZE 1, LENGTH 100: LOSS is FLOW times FLOW; a JET of DRAW 1 at
     * each end (24 at most), all PLAY.
     */
    static FountainNet star(int joints, int floor) {
        FountainNet x = new FountainNet();
        x.tank(floor, 10, 1, 0);
        for (int j = 0; j < joints; j++) {
            x.joint(true, 0, 0, 1, 100);
            if (j < 24) {
                x.jet(j, 1);
                x.play(j, true);
            }
        }
        return x;
    }

    /** The RISE of a JET of a star of FLOOR 300 with such a LEAK. */
    static int starRise(int leak) {
        return 9 * (301 - (leak + 1) * (leak + 1)) / 10;
    }

    /**
     * All that there may be: 4 TANKS, 30 JOINTS (0 to 3 from the TANKS, else J from J - 4), 24 JETS (I at
     * JOINT 6 + I, all PLAY but the last, whose PIPE is EMPTY), all GAUGES read, 12 VIEWS, the last MINUTE 47.
     */
    static FountainNet full() {
        FountainNet x = new FountainNet();
        for (int i = 0; i < 4; i++) {
            x.tank(400 + 20 * i, 90 + i, 50 - i, 3 * i);
        }
        for (int j = 0; j < 30; j++) {
            x.joint(j < 4, j < 4 ? j : j - 4, 20 + 3 * j, 3 + j % 7, 5 + j);
        }
        for (int i = 0; i < 24; i++) {
            x.jet(6 + i, 1 + i);
            x.play(i, i < 23);
        }
        x.empty(29);
        x.leak(7, 5);
        x.leak(29, 6);
        for (int i = 0; i < 24; i++) {
            x.gauge(i, x.rise(i));
        }
        for (int v = 0; v < 12; v++) {
            x.view(1 << 2 * v | 1 << v, 4 * v, 4 * v + 3, 10 * v);
        }
        x.pace(2);
        x.tol(1);
        x.minutes(2);
        return x;
    }
}
