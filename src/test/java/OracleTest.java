import java.util.ArrayList;
import java.util.List;

/** Long runs of calls, the same ones each time, on FountainNet and on PlainNet: every answer must be the same. */
public final class OracleTest {
    private static final int CALLS = 512;
    private static final int RUNS = 700;
    private static final int MOST_SHOWN = 5;

    private final FountainNet net = new FountainNet();
    private final PlainNet plain = new PlainNet();
    private final List<String> calls = new ArrayList<>();
    private final int joints;
    private final boolean frosty;
    private long seed;
    private boolean differs;

    private OracleTest(long run) {
        seed = run * 7919 + 17;
        for (int i = 0; i < 5; i++) {
            next();
        }
        joints = run % 25 == 0 ? 30 : 2 + below(8);
        frosty = run % 3 != 0;
    }

    private long next() {
        seed = seed * 6364136223846793005L + 1442695040888963407L;
        return seed >>> 33;
    }

    private int below(int n) {
        return (int) (next() % n);
    }

    private int from(int least, int most) {
        return least + below(most - least + 1);
    }

    private boolean oneIn(int n) {
        return below(n) == 0;
    }

    /** Mostly a number that will do, now and then one at or behind an edge, or a wild one. */
    private int near(int least, int most, int edgeLeast, int edgeMost) {
        int dice = below(60);
        switch (dice) {
            case 0:
                return edgeLeast;
            case 1:
                return edgeMost;
            case 2:
                return edgeLeast - 1;
            case 3:
                return edgeMost + 1;
            case 4:
                return oneIn(2) ? Integer.MIN_VALUE + below(3) : Integer.MAX_VALUE - below(3);
            default:
                return from(least, most);
        }
    }

    private int some(int count) {
        return near(0, Math.max(0, plain.count(count) - 1), 0, plain.count(count) - 1);
    }

    private int same(String call, int got, int due) {
        calls.add(call + " answered " + got);
        if (got != due && !differs) {
            differs = true;
            int shown = Math.max(0, calls.size() - 60);
            for (String line : calls.subList(shown, calls.size())) {
                System.out.println("  " + line);
            }
            System.out.println("  due is " + due);
        }
        return got;
    }

    private void tank() {
        int f = near(0, 300, 0, 500);
        int a = near(1, 30, 1, 1000);
        int d = near(1, 40, 1, 60);
        int s = near(0, 30, 0, 500);
        same("tank(" + f + ", " + a + ", " + d + ", " + s + ")", net.tank(f, a, d, s), plain.tank(f, a, d, s));
    }

    private void set() {
        int t = some(1);
        int w = near(0, 1, 0, 1);
        int full = plain.count(1) == 0 ? 0 : plain.tankOf(0, 1);
        int v = oneIn(4) ? 0 : near(0, w == 0 ? 40 : 600, 0, w == 0 ? 500 : full);
        same("set(" + t + ", " + w + ", " + v + ")", net.set(t, w, v), plain.set(t, w, v));
    }

    private void joint() {
        boolean tank = oneIn(4);
        int f = tank ? some(1) : oneIn(2) ? plain.count(2) - 1 : some(2);
        int h = near(0, oneIn(2) ? 60 : 5, 0, 500);
        int s = near(1, 9, 1, 9);
        int l = near(1, oneIn(2) ? 30 : 200, 1, 200);
        same("joint(" + tank + ", " + f + ", " + h + ", " + s + ", " + l + ")",
            net.joint(tank, f, h, s, l), plain.joint(tank, f, h, s, l));
    }

    private void jet() {
        int j = oneIn(3) ? some(2) : plain.count(3);
        int d = near(1, 25, 1, 60);
        same("jet(" + j + ", " + d + ")", net.jet(j, d), plain.jet(j, d));
    }

    private void play() {
        int j = some(3);
        boolean on = !oneIn(3);
        same("play(" + j + ", " + on + ")", net.play(j, on), plain.play(j, on));
    }

    private void pipe() {
        int j = some(2);
        int s = near(1, 9, 1, 9);
        same("pipe(" + j + ", " + s + ")", net.pipe(j, s), plain.pipe(j, s));
    }

    private void leak() {
        int j = some(2);
        int v = oneIn(2) ? 0 : near(0, 15, 0, 60);
        leak(j, v);
    }

    private int leak(int j, int v) {
        return same("leak(" + j + ", " + v + ")", net.leak(j, v), plain.leak(j, v));
    }

    private void look() {
        int j = some(2);
        int t = some(3);
        int o = some(3);
        int n = some(1);
        same("flow(" + j + ")", net.flow(j), plain.flow(j));
        same("head(" + j + ")", net.head(j), plain.head(j));
        same("rise(" + t + ")", net.rise(t), plain.rise(t));
        same("share(" + t + ", " + o + ")", net.share(t, o), plain.share(t, o));
        same("lasts(" + n + ")", net.lasts(n), plain.lasts(n));
    }

    private void lookOf() {
        int n = some(1);
        int w = near(0, 5, 0, 5);
        same("tankOf(" + n + ", " + w + ")", net.tankOf(n, w), plain.tankOf(n, w));
        int j = some(2);
        int v = near(0, 8, 0, 8);
        same("jointOf(" + j + ", " + v + ")", net.jointOf(j, v), plain.jointOf(j, v));
        int c = near(0, 16, 0, 17);
        same("count(" + c + ")", net.count(c), plain.count(c));
    }

    private void minutes() {
        int n = oneIn(20) ? from(1, 600) : near(1, 6, 1, 1440 - plain.count(0));
        same("minutes(" + n + ")", net.minutes(n), plain.minutes(n));
    }

    private int lastMinute = -1;

    private void view() {
        int jets = plain.count(3);
        int s = oneIn(12) ? near(0, 3, 0, 1 << jets) : 1 + below(Math.max(1, (1 << jets) - 1));
        s = oneIn(2) ? s : s & below(1 << 24);
        int start = Math.max(lastMinute + 1, oneIn(2) ? plain.count(0) : 0);
        int f = oneIn(15) ? near(0, 1440, 0, 1440) : start + (oneIn(2) ? 0 : below(12));
        int t = oneIn(20) ? near(0, 1440, 0, 1440) : f + below(oneIn(6) ? 120 : 8);
        int r = near(0, oneIn(2) ? 5 : 120, 0, 500);
        if (same("view(" + s + ", " + f + ", " + t + ", " + r + ")", net.view(s, f, t, r), plain.view(s, f, t, r)) >= 0) {
            lastMinute = t;
        }
    }

    private void unview() {
        same("unview()", net.unview(), plain.unview());
        lastMinute = plain.count(5) == 0 ? -1 : lastMinute;
    }

    private void walk() {
        for (int w = 0; w < 5; w++) {
            same("walk(" + w + ")", net.walk(w), plain.walk(w));
        }
        int w = near(0, 4, 0, 4);
        same("walk(" + w + ")", net.walk(w), plain.walk(w));
        same("most()", net.most(), plain.most());
    }

    private void boys() {
        int p = near(0, 6, 0, 30);
        same("pace(" + p + ")", net.pace(p), plain.pace(p));
        same("tasks()", net.tasks(), plain.tasks());
        same("boys()", net.boys(), plain.boys());
        int i = near(0, Math.max(1, plain.tasks()), 0, plain.tasks());
        for (int w = 0; w < 3; w++) {
            same("task(" + i + ", " + w + ")", net.task(i, w), plain.task(i, w));
        }
        int w = near(0, 3, 0, 3);
        same("task(" + i + ", " + w + ")", net.task(i, w), plain.task(i, w));
    }

    private void gauge(int j, int v) {
        same("gauge(" + j + ", " + v + ")", net.gauge(j, v), plain.gauge(j, v));
    }

    private void explain() {
        int t = oneIn(2) ? 0 : near(0, 4, 0, 50);
        same("tol(" + t + ")", net.tol(t), plain.tol(t));
        same("explain()", net.explain(), plain.explain());
        int w = near(0, 3, 0, 3);
        same("explained(" + w + ")", net.explained(w), plain.explained(w));
        same("rivals()", net.rivals(), plain.rivals());
    }

    /** Reads all GAUGES as they would be with some LEAKS, then tells no such LEAKS. */
    private void secretLeaks() {
        int n = plain.count(2);
        for (int i = 0; i < plain.count(3); i++) {
            if (!oneIn(4)) {
                same("play(" + i + ", true)", net.play(i, true), plain.play(i, true));
            }
        }
        int many = from(0, 3);
        int[] was = new int[n];
        for (int k = 0; k < many && n > 0; k++) {
            int j = below(n);
            was[j] = plain.jointOf(j, 7);
            leak(j, from(1, 16));
        }
        for (int i = 0; i < plain.count(3); i++) {
            gauge(i, oneIn(6) ? -1 : Math.min(500, plain.rise(i)));
        }
        for (int j = 0; j < n; j++) {
            if (plain.jointOf(j, 7) != 0) {
                leak(j, was[j]);
            }
        }
        explain();
    }

    private void frost() {
        int j = oneIn(2) ? plain.order(0) : some(2);
        same("empty(" + j + ")", net.empty(j), plain.empty(j));
        int i = near(0, Math.max(0, plain.count(2) - 1), 0, plain.count(2) - 1);
        same("order(" + i + ")", net.order(i), plain.order(i));
    }

    private void fill() {
        int j = some(2);
        same("fill(" + j + ")", net.fill(j), plain.fill(j));
    }

    private void build() {
        if (plain.count(1) < 1 + below(4)) {
            tank();
        } else if (plain.count(2) < joints) {
            joint();
        } else {
            jet();
        }
    }

    private void anything(boolean mayExplain) {
        switch (below(22)) {
            case 0:
                tank();
                break;
            case 1:
                joint();
                break;
            case 2:
                jet();
                break;
            case 3:
            case 4:
            case 5:
                play();
                break;
            case 6:
                set();
                break;
            case 7:
                pipe();
                break;
            case 8:
                leak();
                break;
            case 9:
            case 10:
                look();
                break;
            case 11:
                lookOf();
                break;
            case 12:
                minutes();
                break;
            case 13:
            case 14:
                view();
                break;
            case 15:
                unview();
                break;
            case 16:
                walk();
                break;
            case 17:
                boys();
                break;
            case 18:
                gauge(some(3), near(0, 200, -1, 500));
                break;
            case 19:
                if (mayExplain) {
                    secretLeaks();
                }
                break;
            case 20:
                if (frosty) {
                    frost();
                }
                break;
            default:
                fill();
                break;
        }
    }

    private boolean agree() {
        while (calls.size() < 2 * joints + 6 && !differs) {
            build();
        }
        boolean large = joints > 12;
        int explains = 0;
        while (calls.size() < CALLS - 80 && !differs) {
            boolean may = !large || explains < 1;
            explains++;
            anything(may);
        }
        for (int c = 0; c <= 16 && !differs; c++) {
            same("count(" + c + ")", net.count(c), plain.count(c));
        }
        return !differs;
    }

    public static void main(String[] args) {
        int wrong = 0;
        for (int run = 0; run < RUNS && wrong < MOST_SHOWN; run++) {
            if (!new OracleTest(run).agree()) {
                wrong++;
                System.out.println("run " + run + " differs");
            }
        }
        System.out.println(wrong == 0 ? "all answers are as PlainNet's" : wrong + " runs differ");
        if (wrong != 0) {
            System.exit(1);
        }
    }
}
