/** Promises 19 to 22, and the terms of CHANGES, TASKS and BOYS: a test for each sentence that names an edge. */
public final class BoysEdgesTest {
    private static final int MIN = Integer.MIN_VALUE;
    private static final int MAX = Integer.MAX_VALUE;

    public static void main(String[] args) {
        pace();
        tasksOfNone();
        firstAndBehindTheLast();
        bothAreOne();
        oneMinuteBetween();
        whoIsInBothStays();
        oneForEachJet();
        allCountAsShut();
        ofAllViews();
        byMinutesThenJets();
        mostTasks();
        taskRefusedInOrder();
        boysOfNone();
        minuteAndRun();
        runOfJointsNotJets();
        sameMinute();
        greatestPace();
        sixtyTasks();
        boysPassOn();
        beginsWhereverItLikes();
        boysOfTheFirstMinute();
        boysOfWhatIsLeft();
        Due.end("BoysEdgesTest");
    }

    /** JOINTS from one TANK, with JETS at some of them, in this order. */
    private static FountainNet at(int... joints) {
        FountainNet x = new FountainNet();
        x.tank(100, 10, 6, 0);
        for (int j = 0; j < 30; j++) {
            x.joint(true, 0, 10, 9, 1);
        }
        for (int j : joints) {
            x.jet(j, 1);
        }
        return x;
    }

    private static FountainNet viewed(int... told) {
        FountainNet x = at(3, 0, 7);
        for (int i = 0; i + 2 < told.length; i += 3) {
            x.view(told[i], told[i + 1], told[i + 2], 0);
        }
        return x;
    }

    /** All TASKS as rows of MINUTE, JET, and 1 to open. */
    private static void tasks(String name, FountainNet x, int[]... due) {
        Due.due(name + ", tasks()", x.tasks(), due.length);
        for (int i = 0; i < due.length; i++) {
            int number = i;
            Due.row(name + ", of TASK " + i, 0, 2, w -> x.task(number, w), due[i]);
        }
        Due.due(name + ", no more", x.task(due.length, 0), -1);
    }

    private static int[] t(int minute, int jet, int open) {
        return new int[] {minute, jet, open};
    }

    /** "PACE (0 .. 30 MINUTES; 1 at first)"; "what it was. -4; -6." */
    private static void pace() {
        Due.range("19: PACE", Gardens::some, 0, 30, 3, (x, v) -> x.pace(v), x -> x.pace(9));
        Due.range("19: PACE, none told", FountainNet::new, 0, 30, 1, (x, v) -> x.pace(v), x -> x.pace(9));
        Due.range("19: PACE, all told", Gardens::full, 0, 30, 2, (x, v) -> x.pace(v), x -> x.pace(9));
    }

    private static void tasksOfNone() {
        tasks("20: none told", new FountainNet());
        tasks("20: no VIEW", at(3, 0, 7));
        FountainNet x = viewed(1, 0, 0);
        x.unview();
        tasks("20: none any more", x);
    }

    /** "at the first MINUTE of each VIEW, and behind the last MINUTE of each" */
    private static void firstAndBehindTheLast() {
        tasks("21: the first MINUTE of all", viewed(2, 0, 0), t(0, 1, 1), t(1, 1, 0));
        tasks("21: the last MINUTE of all", viewed(4, 1440, 1440), t(1440, 2, 1), t(1441, 2, 0));
        tasks("21: all MINUTES", viewed(1, 0, 1440), t(0, 0, 1), t(1441, 0, 0));
        FountainNet x = at(3, 0, 7);
        x.minutes(1440);
        x.view(1, 2, 3, 0);
        tasks("21: of one that has been", x, t(2, 0, 1), t(4, 0, 0));
    }

    /** "(of a VIEW that begins right then: both are one; ..)" */
    private static void bothAreOne() {
        tasks("21: right behind", viewed(1, 2, 4, 2, 5, 6), t(2, 0, 1), t(5, 0, 0), t(5, 1, 1), t(7, 1, 0));
        tasks("21: of MINUTES 0 and 1", viewed(2, 0, 0, 1, 1, 1), t(0, 1, 1), t(1, 0, 1), t(1, 1, 0), t(2, 0, 0));
    }

    private static void oneMinuteBetween() {
        tasks("21: a MINUTE between", viewed(1, 2, 4, 1, 6, 6), t(2, 0, 1), t(5, 0, 0), t(6, 0, 1), t(7, 0, 0));
        tasks("21: none between", viewed(1, 2, 4, 1, 5, 6), t(2, 0, 1), t(7, 0, 0));
    }

    /** "who is in both stays as it is" */
    private static void whoIsInBothStays() {
        tasks("21: one stays", viewed(3, 1, 1, 6, 2, 2), t(1, 0, 1), t(1, 1, 1), t(2, 0, 0), t(2, 2, 1), t(3, 1, 0),
            t(3, 2, 0));
        tasks("21: all stay", viewed(7, 1, 1, 7, 2, 2), t(1, 0, 1), t(1, 1, 1), t(1, 2, 1), t(3, 0, 0), t(3, 1, 0),
            t(3, 2, 0));
    }

    /** "TASKS: one for each JET that is opened or shut" */
    private static void oneForEachJet() {
        tasks("21: of one", viewed(4, 2, 3), t(2, 2, 1), t(4, 2, 0));
        tasks("21: of two", viewed(5, 2, 3), t(2, 0, 1), t(2, 2, 1), t(4, 0, 0), t(4, 2, 0));
        tasks("21: of three", viewed(7, 2, 2), t(2, 0, 1), t(2, 1, 1), t(2, 2, 1), t(3, 0, 0), t(3, 1, 0), t(3, 2, 0));
    }

    /** "(all count as shut ahead of the first VIEW)" */
    private static void allCountAsShut() {
        FountainNet x = viewed(1, 0, 0);
        x.play(0, true);
        x.play(1, true);
        tasks("21: whatever PLAYS", x, t(0, 0, 1), t(1, 0, 0));
        FountainNet y = viewed(1, 0, 0);
        y.empty(3);
        tasks("21: behind an EMPTY PIPE", y, t(0, 0, 1), t(1, 0, 0));
    }

    /** "(of all VIEWS)" */
    private static void ofAllViews() {
        FountainNet x = viewed(1, 0, 0, 2, 4, 4);
        x.minutes(5);
        tasks("20: that have been, too", x, t(0, 0, 1), t(1, 0, 0), t(4, 1, 1), t(5, 1, 0));
        x.unview();
        tasks("20: of the one that is left", x, t(0, 0, 1), t(1, 0, 0));
    }

    /** "by MINUTES, then by JETS' numbers" */
    private static void byMinutesThenJets() {
        tasks("21: opened and shut mixed", viewed(5, 0, 0, 2, 1, 1, 4, 2, 2), t(0, 0, 1), t(0, 2, 1), t(1, 0, 0),
            t(1, 1, 1), t(1, 2, 0), t(2, 1, 0), t(2, 2, 1), t(3, 2, 0));
    }

    private static FountainNet large(int views) {
        int[] joints = new int[24];
        for (int i = 0; i < 24; i++) {
            joints[i] = 6 + i;
        }
        FountainNet x = at(joints);
        for (int v = 0; v < views; v++) {
            x.view(Gardens.ALL_JETS, 3 * v, 3 * v + 1, 0);
        }
        return x;
    }

    private static void mostTasks() {
        FountainNet x = large(12);
        Due.due("20: the most", x.tasks(), 576);
        Due.row("21: the last but one", 0, 2, w -> x.task(574, w), 35, 22, 0);
        Due.row("21: the last", 0, 2, w -> x.task(575, w), 35, 23, 0);
        Due.due("21: behind it", x.task(576, 0), -1);
    }

    /** "-1; -2." */
    private static void taskRefusedInOrder() {
        Due.number("21: task", () -> viewed(3, 0, 0), 4, (x, i) -> x.task(i, 0));
        Due.number("21: task, none told", FountainNet::new, 0, (x, i) -> x.task(i, 0));
        Due.number("21: task, no VIEW", () -> at(3), 0, (x, i) -> x.task(i, 0));
        Due.number("21: task, the most", () -> large(12), 576, (x, i) -> x.task(i, 0));
        Due.whats("21: task", () -> viewed(3, 0, 0), 2, (x, w) -> x.task(3, w));
        Due.refused("21: NOBODY ahead of OTHER", () -> viewed(3, 0, 0), x -> x.task(4, 3), -1);
        Due.refused("21: NOBODY ahead of OTHER, both far off", () -> viewed(3, 0, 0), x -> x.task(MIN, MAX), -1);
        Due.refused("21: NOBODY ahead of OTHER, none told", FountainNet::new, x -> x.task(0, 3), -1);
    }

    /** "BOYS (0 without TASKS)" */
    private static void boysOfNone() {
        Due.taken("22: none told", FountainNet::new, FountainNet::boys, 0);
        Due.taken("22: no VIEW", () -> at(3, 0, 7), FountainNet::boys, 0);
        Due.taken("22: one JET", () -> viewed(1, 0, 0), FountainNet::boys, 1);
        Due.taken("22: one JET again and again", () -> viewed(1, 0, 0, 1, 2, 2, 1, 4, 4), FountainNet::boys, 1);
    }

    private static int boys(int pace, int... told) {
        FountainNet x = viewed(told);
        x.pace(pace);
        return x.boys();
    }

    /** "if its MINUTE is not less than the other's and RUN together" */
    private static void minuteAndRun() {
        // JET 0 is SHUT at 1, JET 1 opened: RUN 3
        Due.due("22: as much", boys(1, 1, 0, 0, 2, 4, 4), 1);
        Due.due("22: one less", boys(1, 1, 0, 0, 2, 3, 3), 2);
        Due.due("22: as much, from the lesser JOINT", boys(1, 2, 0, 0, 1, 4, 4), 1);
        Due.due("22: one less, from the lesser JOINT", boys(1, 2, 0, 0, 1, 3, 3), 2);
        Due.due("22: as much with PACE 2", boys(2, 1, 0, 0, 2, 7, 7), 1);
        Due.due("22: one less with PACE 2", boys(2, 1, 0, 0, 2, 6, 6), 2);
        Due.due("22: PACE is 1 at first", viewed(1, 0, 0, 2, 4, 4).boys(), 1);
        Due.due("22: PACE is 1 at first, one less", viewed(1, 0, 0, 2, 3, 3).boys(), 2);
    }

    /** "the difference of their numbers": of the JOINTS' */
    private static void runOfJointsNotJets() {
        FountainNet x = at(29, 28, 0);
        x.view(1, 0, 0, 0);
        x.view(2, 2, 2, 0);
        Due.due("22: JOINTS 29 and 28", x.boys(), 1);
        x.unview();
        x.view(4, 29, 29, 0);
        Due.due("22: JOINTS 29 and 0, one less", x.boys(), 2);
        x.unview();
        x.view(4, 30, 30, 0);
        Due.due("22: JOINTS 29 and 0", x.boys(), 1);
    }

    private static void sameMinute() {
        Due.due("22: two at once", boys(1, 3, 0, 0), 2);
        Due.due("22: two at once, PACE 0", boys(0, 3, 0, 0), 1);
        Due.due("22: one SHUT as one is opened", boys(1, 1, 0, 4, 2, 5, 9), 2);
        Due.due("22: one SHUT as one is opened, PACE 0", boys(0, 1, 0, 4, 2, 5, 9), 1);
        Due.due("22: three at once", boys(30, 7, 0, 0), 3);
    }

    /** "(0 .. 30 MINUTES ..)" */
    private static void greatestPace() {
        int[][] due = {{870, 2}, {871, 1}};
        for (int[] minuteAndBoys : due) {
            FountainNet x = at(0, 29);
            x.pace(30);
            x.view(1, 0, 0, 0);
            x.view(2, minuteAndBoys[0], minuteAndBoys[0], 0);
            Due.due("22: 29 times 30, at " + minuteAndBoys[0], x.boys(), minuteAndBoys[1]);
        }
    }

    /** TASKS come in twos: each JET that is opened is SHUT. */
    private static FountainNet some(int jetsOfLast) {
        FountainNet x = large(1);
        x.view((1 << jetsOfLast) - 1, 1440, 1440, 0);
        return x;
    }

    /** "-6 more than 60 TASKS" */
    private static void sixtyTasks() {
        Due.due("20: 60 TASKS", some(6).tasks(), 60);
        Due.taken("22: 60 TASKS", () -> some(6), FountainNet::boys, 24);
        Due.due("20: 62 TASKS", some(7).tasks(), 62);
        Due.refused("22: 62 TASKS", () -> some(7), FountainNet::boys, -6);
        Due.refused("22: the most TASKS", () -> large(12), FountainNet::boys, -6);
        FountainNet x = some(7);
        x.pace(0);
        Due.due("22: whatever PACE", x.boys(), -6);
        x.unview();
        Due.due("22: fewer again", x.boys(), 1);
    }

    /** "the fewest that can do all TASKS, each done by one, a BOY beginning wherever it likes" */
    private static void boysPassOn() {
        // JOINTS 3, 0, 7: at 5 one is SHUT at 3; at 8 others are opened at 0 and 7: 3 and 4 off
        Due.due("22: none of two in time", boys(1, 1, 0, 4, 6, 7, 7), 3);
        Due.due("22: one of two in time", boys(1, 1, 0, 4, 6, 8, 8), 2);
        Due.due("22: both in time, but one BOY is one", boys(1, 1, 0, 4, 6, 9, 9), 2);
        FountainNet x = at(0, 10, 20);
        x.view(1, 0, 4, 0);
        x.view(2, 15, 15, 0);
        x.view(4, 26, 26, 0);
        Due.due("22: one runs along", x.boys(), 1);
        x.unview();
        x.view(4, 25, 25, 0);
        Due.due("22: one less, at last", x.boys(), 2);
    }

    /** "a BOY beginning wherever it likes": no RUN leads to its first TASK. */
    private static void beginsWhereverItLikes() {
        FountainNet x = at(29, 0);
        x.pace(30);
        x.view(1, 0, 1440, 0);
        Due.due("22: at the last JOINT at MINUTE 0", x.boys(), 1);
        x.unview();
        x.view(3, 0, 1440, 0);
        Due.due("22: one at each end", x.boys(), 2);
    }

    /** All later TASKS are far apart: only those of the first MINUTE, or of the last one, need two. */
    private static void boysOfTheFirstMinute() {
        Due.due("22: JOINTS 3 and 0 at first", boys(1, 3, 0, 50, 1, 51, 99), 2);
        Due.due("22: JOINTS 3 and 7 at first", boys(1, 5, 0, 50, 1, 51, 99), 2);
        Due.due("22: JOINTS 3 and 0 at last", boys(1, 1, 0, 50, 3, 51, 99), 2);
        Due.due("22: JOINTS 3 and 7 at last", boys(1, 1, 0, 50, 5, 51, 99), 2);
        Due.due("22: JOINTS 0 and 7 in the midst", boys(1, 2, 0, 50, 6, 51, 99, 2, 100, 200), 1);
        Due.due("22: two are opened, three SHUT", boys(1, 1, 0, 50, 7, 51, 99, 1, 200, 300), 3);
        Due.due("22: two are opened, two SHUT", boys(1, 1, 0, 50, 7, 51, 99, 1, 100, 300), 2);
    }

    /** A VIEW that is none any more leaves no TASK behind. */
    private static void boysOfWhatIsLeft() {
        FountainNet x = viewed(1, 10, 20, 6, 21, 30, 7, 40, 40);
        Due.due("22: of three VIEWS", x.boys(), 3);
        x.unview();
        Due.due("22: of two", x.boys(), 3);
        x.unview();
        Due.due("22: of one", x.boys(), 1);
        x.pace(30);
        Due.due("22: of one, with PACE 30", x.boys(), 1);
        x.unview();
        Due.due("22: of none", x.boys(), 0);
        FountainNet y = viewed(7, 0, 50);
        Due.due("22: three JETS", y.boys(), 3);
        y.unview();
        y.view(3, 0, 50, 0);
        Due.due("22: two of them", y.boys(), 2);
    }
}
