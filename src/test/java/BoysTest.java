/** Promises 19 to 22: TASKS and BOYS. */
public final class BoysTest {
    private static final int MIN = Integer.MIN_VALUE;
    private static final int MAX = Integer.MAX_VALUE;

    public static void main(String[] args) {
        pace();
        tasks();
        tasksOfViewsThatMeet();
        taskRefused();
        mostTasks();
        boysOfNone();
        boysRun();
        boysCross();
        boysToo();
        Due.end("BoysTest");
    }

    /** JETS 0, 1, 2 at JOINTS 3, 0, 7. */
    private static FountainNet garden() {
        FountainNet x = new FountainNet();
        x.tank(100, 10, 6, 0);
        for (int j = 0; j < 8; j++) {
            x.joint(true, 0, 10, 9, 1);
        }
        x.jet(3, 1);
        x.jet(0, 1);
        x.jet(7, 1);
        return x;
    }

    private static FountainNet viewed() {
        FountainNet x = garden();
        x.view(3, 0, 2, 0);
        x.view(6, 3, 5, 0);
        x.view(6, 6, 6, 0);
        x.view(1, 9, 9, 0);
        return x;
    }

    private static void pace() {
        FountainNet x = garden();
        Due.due("19: pace(30)", x.pace(30), 1);
        Due.due("19: pace(0)", x.pace(0), 30);
        Due.due("19: pace(2)", x.pace(2), 0);
        Due.due("19: pace(2)", x.pace(2), 2);
        Due.refused("19: pace(-1)", BoysTest::garden, y -> y.pace(-1), -4);
        Due.refused("19: pace(31)", BoysTest::garden, y -> y.pace(31), -6);
        Due.refused("19: pace(MIN)", BoysTest::garden, y -> y.pace(MIN), -4);
        Due.refused("19: pace(MAX)", BoysTest::garden, y -> y.pace(MAX), -6);
    }

    private static void tasks() {
        FountainNet x = garden();
        Due.due("20: no VIEWS", x.tasks(), 0);
        x.play(0, true);
        x.view(2, 1440, 1440, 0);
        Due.due("20: whatever PLAYS", x.tasks(), 2);
        Due.row("21: opened", 0, 2, w -> x.task(0, w), 1440, 1, 1);
        Due.row("21: SHUT behind the last MINUTE", 0, 2, w -> x.task(1, w), 1441, 1, 0);
        x.minutes(1440);
        Due.due("20: of all VIEWS, ever", x.tasks(), 2);
    }

    private static void tasksOfViewsThatMeet() {
        FountainNet x = viewed();
        Due.due("20: tasks()", x.tasks(), 8);
        int[][] due = {{0, 0, 1}, {0, 1, 1}, {3, 0, 0}, {3, 2, 1}, {7, 1, 0}, {7, 2, 0}, {9, 0, 1}, {10, 0, 0}};
        for (int i = 0; i < due.length; i++) {
            int number = i;
            Due.row("21: of " + i, 0, 2, w -> x.task(number, w), due[i]);
        }
        x.unview();
        Due.due("20: unview()", x.tasks(), 6);
        Due.due("21: task(6, 0)", x.task(6, 0), -1);
    }

    private static void taskRefused() {
        Due.refused("21: no TASK", BoysTest::viewed, x -> x.task(8, 0), -1);
        Due.refused("21: TASK -1", BoysTest::viewed, x -> x.task(-1, 3), -1);
        Due.refused("21: TASK MAX", BoysTest::viewed, x -> x.task(MAX, 0), -1);
        Due.refused("21: TASK MIN", BoysTest::viewed, x -> x.task(MIN, 0), -1);
        Due.refused("21: what 3", BoysTest::viewed, x -> x.task(0, 3), -2);
        Due.refused("21: what -1", BoysTest::viewed, x -> x.task(7, -1), -2);
    }

    private static FountainNet large() {
        FountainNet x = new FountainNet();
        x.tank(100, 10, 6, 0);
        for (int j = 0; j < 24; j++) {
            x.joint(true, 0, 10, 9, 1);
            x.jet(j, 1);
        }
        return x;
    }

    private static void mostTasks() {
        FountainNet x = large();
        int all = (1 << 24) - 1;
        for (int v = 0; v < 12; v++) {
            x.view(all, 3 * v, 3 * v + 1, 0);
        }
        Due.due("20: 24 JETS, 12 VIEWS", x.tasks(), 576);
        Due.row("21: the last", 0, 2, w -> x.task(575, w), 35, 23, 0);
        Due.row("21: the first of the last VIEW", 0, 2, w -> x.task(528, w), 33, 0, 1);
        Due.due("21: task(576, 0)", x.task(576, 0), -1);
        Due.due("22: boys()", x.boys(), -6);
    }

    private static void boysOfNone() {
        FountainNet x = garden();
        Due.due("22: no TASKS", x.boys(), 0);
        x.view(1, 4, 4, 0);
        Due.due("22: one JET", x.boys(), 1);
    }

    private static void boysRun() {
        FountainNet x = garden();
        x.view(1, 0, 0, 0);
        x.view(2, 4, 4, 0);
        // JET 0: 0 and 1 at JOINT 3; JET 1: 4 and 5 at JOINT 0: RUN 3 from 1 to 4
        Due.due("22: just in time", x.boys(), 1);
        x.pace(2);
        Due.due("22: too slow", x.boys(), 2);
        x.pace(0);
        Due.due("22: PACE 0", x.boys(), 1);
        FountainNet y = garden();
        y.view(3, 0, 50, 0);
        y.view(1, 51, 99, 0);
        Due.due("22: two only at first", y.boys(), 2);
        FountainNet z = garden();
        z.view(5, 0, 50, 0);
        z.view(1, 51, 99, 0);
        Due.due("22: two only at first, the lesser JOINT first", z.boys(), 2);
    }

    private static void boysCross() {
        FountainNet x = garden();
        x.view(7, 10, 20, 0);
        Due.due("22: three at once", x.boys(), 3);
        x.pace(0);
        Due.due("22: three at once, PACE 0", x.boys(), 1);
        x.unview();
        x.pace(3);
        x.view(6, 10, 30, 0);
        x.view(1, 40, 50, 0);
        // at 31 JOINTS 0 and 7 are SHUT; 40 at JOINT 3: from 0 by 9, from 7 by 12
        Due.due("22: one of both in time", x.boys(), 2);
        x.pace(4);
        Due.due("22: none in time", x.boys(), 3);
    }

    /** 60 TASKS are done, 62 are refused. */
    private static FountainNet many(int jetsOfLast) {
        FountainNet x = large();
        x.view((1 << 24) - 1, 0, 9, 0);
        x.view((1 << jetsOfLast) - 1, 100, 100, 0);
        return x;
    }

    private static void boysToo() {
        FountainNet x = many(6);
        Due.due("20: 60 TASKS", x.tasks(), 60);
        Due.due("22: 24 at once", x.boys(), 24);
        FountainNet y = many(7);
        Due.due("20: 62 TASKS", y.tasks(), 62);
        Due.due("22: more than 60", y.boys(), -6);
        Due.due("22: counted", y.count(16), 1);
        Due.refused("22: more than 60", () -> many(7), FountainNet::boys, -6);
        FountainNet odd = large();
        odd.view(1, 0, 0, 0);
        odd.view((1 << 24) - 1, 1, 5, 0);
        odd.view((1 << 6) - 1, 90, 90, 0);
        odd.view((1 << 7) - 2, 91, 91, 0);
        Due.due("20: 62 TASKS of VIEWS that meet", odd.tasks(), 62);
    }
}
