import java.util.ArrayList;
import java.util.List;

/**
 * Each call of the face with the least, the greatest and all edges of numbers as arguments, in gardens of which
 * nothing, some or all is told: it answers what PlainNet does, whatever came before.
 */
public final class AnyArgumentsTest {
    private static final int MIN = Integer.MIN_VALUE;
    private static final int MAX = Integer.MAX_VALUE;
    private static final int CALLS = 512;
    private static final int MOST_SHOWN = 20;
    /** Of calls of one or two numbers. */
    private static final int[] MANY = {MIN, MIN + 1, -1000000001, -11, -10, -9, -2, -1, 0, 1, 2, 3, 4, 5, 6, 7, 8, 9, 10,
        11, 12, 16, 17, 23, 24, 25, 29, 30, 31, 50, 51, 59, 60, 61, 500, 501, 575, 576, 1000, 1440, 1441, 60000, 60001,
        1 << 24, 1 << 30, MAX - 1, MAX};
    /** Of calls of three or more. */
    private static final int[] FEW = {MIN, -1, 0, 1, 2, 9, 30, 60, 200, 500, 1440, MAX};
    private static final int[] BEYOND = {10, 61, 201, 501, 1001, 1441};
    private static final String[] OF_NONE = {"unview()", "most()", "tasks()", "boys()", "explain()", "rivals()"};
    private static final String[] OF_ONE = {"flow", "head", "rise", "minutes", "lasts", "walk", "pace", "tol",
        "explained", "empty", "fill", "order", "count"};
    private static final String[] OF_TWO = {"jet", "pipe", "leak", "share", "task", "gauge", "tankOf", "jointOf"};

    private final List<String> built;
    private FountainNet net;
    private PlainNet plain;
    private int calls = CALLS;
    private int shown;

    private AnyArgumentsTest(List<String> built) {
        this.built = built;
    }

    public static void main(String[] args) {
        for (List<String> built : List.of(nothing(), some(), all())) {
            AnyArgumentsTest test = new AnyArgumentsTest(built);
            test.ofNone();
            test.ofOneOrTwo();
            test.ofMore();
        }
        Due.end("AnyArgumentsTest");
    }

    private static List<String> nothing() {
        return List.of();
    }

    private static List<String> some() {
        return List.of("tank(100, 10, 6, 2)", "tank(60, 5, 8, 0)", "joint(true, 0, 10, 2, 50)",
            "joint(false, 0, 20, 3, 40)", "joint(true, 1, 5, 1, 9)", "joint(false, 2, 0, 4, 7)", "jet(0, 5)", "jet(1, 7)",
            "jet(3, 4)", "play(0, true)", "play(1, true)", "leak(2, 1)", "gauge(0, 70)", "view(3, 2, 4, 30)", "empty(3)",
            "minutes(1)");
    }

    /** 4 TANKS, 30 JOINTS, 24 JETS, 12 VIEWS, with TASKS and without GAUGES that are read. */
    private static List<String> all() {
        List<String> calls = new ArrayList<>();
        for (int i = 0; i < 4; i++) {
            calls.add("tank(" + (497 + i) + ", " + (1000 - i) + ", 60, " + (500 - i) + ")");
        }
        for (int j = 0; j < 30; j++) {
            calls.add("joint(" + (j < 4) + ", " + (j < 4 ? j : j - 4) + ", " + 3 * j + ", " + (1 + j % 9) + ", 200)");
        }
        for (int i = 0; i < 24; i++) {
            calls.add("jet(" + (29 - i) + ", " + (60 - i) + ")");
            calls.add("play(" + i + ", " + (i % 5 != 0) + ")");
        }
        for (int v = 0; v < 12; v++) {
            calls.add("view(" + (3 << 2 * v) + ", " + 9 * v + ", " + (9 * v + v % 9) + ", " + 20 * v + ")");
        }
        calls.add("empty(29)");
        return calls;
    }

    /** An object lasts 512 calls: then both are made anew. */
    private void same(String call) {
        if (calls >= CALLS) {
            net = new FountainNet();
            plain = new PlainNet();
            for (String told : built) {
                Due.due("built: " + told, Calls.answer(net, told), Calls.answer(plain, told));
            }
            calls = built.size();
        }
        calls++;
        int got = Calls.answer(net, call);
        int due = Calls.answer(plain, call);
        if (got != due && shown < MOST_SHOWN) {
            shown++;
            Due.due(call + " as call " + calls + " behind " + built.size() + " that built", got, due);
        }
    }

    private void ofNone() {
        for (String call : OF_NONE) {
            same(call);
        }
    }

    private void ofOneOrTwo() {
        for (int v : MANY) {
            for (String name : OF_ONE) {
                same(name + "(" + v + ")");
            }
            same("play(" + v + ", true)");
            same("play(" + v + ", false)");
        }
        for (int v : MANY) {
            for (int w : MANY) {
                for (String name : OF_TWO) {
                    same(name + "(" + v + ", " + w + ")");
                }
            }
            ofNone();
        }
    }

    private void ofMore() {
        for (int v : FEW) {
            for (int w : FEW) {
                for (int x : FEW) {
                    same("set(" + v + ", " + w + ", " + x + ")");
                    for (int y : FEW) {
                        same("tank(" + v + ", " + w + ", " + x + ", " + y + ")");
                        same("view(" + v + ", " + w + ", " + x + ", " + y + ")");
                        same("joint(" + (w > 1) + ", " + v + ", " + w + ", " + x + ", " + y + ")");
                    }
                }
                for (int x : BEYOND) {
                    same("tank(" + w + ", " + v + ", 1, " + x + ")");
                    same("view(1, " + v + ", " + x + ", " + w + ")");
                    same("joint(" + (w > 1) + ", " + v + ", " + w + ", " + x + ", 1)");
                }
            }
            ofNone();
        }
    }
}
