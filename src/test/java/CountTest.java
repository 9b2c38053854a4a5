/** Promise 33: count. */
public final class CountTest {
    public static void main(String[] args) {
        counts();
        refusals();
        others();
        Due.end("CountTest");
    }

    private static void counts() {
        FountainNet x = new FountainNet();
        for (int i = 0; i < 3; i++) {
            x.tank(100, 10, 6, 0);
        }
        for (int j = 0; j < 6; j++) {
            x.joint(true, j % 3, 10, 9, 1);
        }
        for (int i = 0; i < 5; i++) {
            x.jet(i, 1);
            x.play(i, i != 2);
        }
        x.view(1, 0, 1, 0);
        x.view(2, 2, 3, 0);
        x.empty(5);
        x.minutes(9);
        Due.row("33: count", 0, 9, x::count, 9, 3, 6, 5, 4, 2, 1, -9, -9, -9);
        x.play(0, false);
        x.unview();
        x.fill(5);
        Due.row("33: count, then", 0, 9, x::count, 9, 3, 6, 5, 3, 1, 0, -9, -9, -9);
    }

    private static void refusals() {
        FountainNet x = new FountainNet();
        x.tank(-1, 1, 1, 0);
        x.tank(0, 0, 1, 0);
        x.tank(501, 1, 1, 0);
        x.flow(0);
        x.head(0);
        x.gauge(0, 0);
        x.walk(7);
        x.unview();
        x.most();
        x.walk(1);
        x.walk(1);
        Due.row("33: count", 10, 17, x::count, -9, 3, 1, 4, 2, 0, 1, -9);
        x.tank(100, 10, 6, 0);
        x.joint(true, 0, 10, 9, 1);
        x.jet(0, 1);
        x.gauge(0, -2);
        x.gauge(0, 501);
        x.lasts(0);
        x.order(9);
        x.explained(0);
        x.jointOf(0, 4);
        Due.row("33: then count", 10, 17, x::count, -9, 3, 1, 4, 3, 0, 2, -9);
    }

    private static void others() {
        FountainNet x = new FountainNet();
        int[] others = {-1, 7, 8, 9, 10, 17, 18, 100, -11, Integer.MIN_VALUE, Integer.MIN_VALUE + 11, Integer.MAX_VALUE};
        for (int other : others) {
            Due.due("33: count(" + other + ")", x.count(other), -9);
        }
        Due.row("33: nothing is refused", 11, 16, x::count, 0, 0, 0, 0, 0, 0);
    }
}
