import java.util.ArrayList;
import java.util.List;

/**
 * The document once more, word by word and without any short cut, for OracleTest to compare with. It is
 * written apart from FountainNet: each FLOW is summed anew along the PIPES, BOYS are found by pairing
 * TASKS, all sets of LEAKS are tried.
 */
final class PlainNet {
    private static final class T {
        int floor, area, depth, water, spring, spilled, lack;
    }

    private static final class J {
        int tank, ahead, height, size, length, leak, jet = -9;
        boolean empty;
    }

    private static final class Jt {
        int joint, draw, gauge = -1;
        boolean plays;
    }

    private static final class V {
        int set, from, to, rise;
    }

    private static final class Task {
        int minute, jet, open;
    }

    private final List<T> tanks = new ArrayList<>();
    private final List<J> joints = new ArrayList<>();
    private final List<Jt> jets = new ArrayList<>();
    private final List<V> views = new ArrayList<>();
    private final int[] refused = new int[7];
    private int minute, pace = 1, tol;

    private int no(int code) {
        refused[-code]++;
        return code;
    }

    private int noAsTold(int code) {
        refused[-code]++;
        return 1000000000 - code;
    }

    private boolean noTank(int i) {
        return i < 0 || i >= tanks.size();
    }

    private boolean noJoint(int i) {
        return i < 0 || i >= joints.size();
    }

    private boolean noJet(int i) {
        return i < 0 || i >= jets.size();
    }

    // ---- what flows

    private boolean cut(int joint) {
        for (int p = joint; p >= 0; p = joints.get(p).ahead) {
            if (joints.get(p).empty) {
                return true;
            }
        }
        return false;
    }

    private boolean leadsTo(int pipe, int joint) {
        for (int p = joint; p >= 0; p = joints.get(p).ahead) {
            if (p == pipe) {
                return true;
            }
        }
        return false;
    }

    private int flowOf(int pipe, boolean[] on, int[] leaks) {
        int sum = 0;
        for (int k = 0; k < joints.size(); k++) {
            if (leadsTo(pipe, k) && !cut(k)) {
                sum += leaks[k];
                int jet = joints.get(k).jet;
                sum += jet >= 0 && on[jet] ? jets.get(jet).draw : 0;
            }
        }
        return sum;
    }

    private int lossOf(int pipe, boolean[] on, int[] leaks) {
        long f = flowOf(pipe, on, leaks);
        J j = joints.get(pipe);
        return (int) (f * f * j.length / (100L * j.size * j.size));
    }

    private int headOf(int joint, boolean[] on, int[] leaks, int[] water) {
        J j = joints.get(joint);
        if (water[j.tank] == 0 || cut(joint)) {
            return 0;
        }
        int head = tanks.get(j.tank).floor + water[j.tank] / tanks.get(j.tank).area;
        for (int p = joint; p >= 0; p = joints.get(p).ahead) {
            head -= lossOf(p, on, leaks);
        }
        return head - j.height;
    }

    private int riseOf(int jet, boolean[] on, int[] leaks, int[] water) {
        if (!on[jet]) {
            return 0;
        }
        return Math.max(0, 9 * headOf(jets.get(jet).joint, on, leaks, water) / 10);
    }

    private int outOf(int tank, boolean[] on, int[] leaks) {
        int sum = 0;
        for (int j = 0; j < joints.size(); j++) {
            if (joints.get(j).tank == tank && joints.get(j).ahead < 0) {
                sum += flowOf(j, on, leaks);
            }
        }
        return sum;
    }

    private boolean[] playing() {
        boolean[] on = new boolean[jets.size()];
        for (int i = 0; i < on.length; i++) {
            on[i] = jets.get(i).plays;
        }
        return on;
    }

    private int[] told() {
        int[] leaks = new int[joints.size()];
        for (int j = 0; j < leaks.length; j++) {
            leaks[j] = joints.get(j).leak;
        }
        return leaks;
    }

    private int[] waters() {
        int[] water = new int[tanks.size()];
        for (int i = 0; i < water.length; i++) {
            water[i] = tanks.get(i).water;
        }
        return water;
    }

    // ---- building

    int tank(int floor, int area, int depth, int spring) {
        if (floor < 0 || area < 1 || depth < 1 || spring < 0) {
            return no(-4);
        }
        if (floor > 500 || area > 1000 || depth > 60 || spring > 500 || tanks.size() == 4) {
            return no(-6);
        }
        T t = new T();
        t.floor = floor;
        t.area = area;
        t.depth = depth;
        t.spring = spring;
        t.water = area * depth;
        tanks.add(t);
        return tanks.size() - 1;
    }

    int set(int tank, int what, int v) {
        if (noTank(tank)) {
            return no(-1);
        }
        if (what != 0 && what != 1) {
            return no(-2);
        }
        if (v < 0) {
            return no(-4);
        }
        T t = tanks.get(tank);
        if (v > (what == 0 ? 500 : t.area * t.depth)) {
            return no(-6);
        }
        int was = what == 0 ? t.spring : t.water;
        if (what == 0) {
            t.spring = v;
        } else {
            t.water = v;
        }
        return was;
    }

    int joint(boolean tank, int from, int height, int size, int length) {
        if (tank ? noTank(from) : noJoint(from)) {
            return no(-1);
        }
        if (height < 0 || size < 1 || length < 1) {
            return no(-4);
        }
        if (height > 500 || size > 9 || length > 200 || joints.size() == 30) {
            return no(-6);
        }
        if (!tank && joints.get(from).empty) {
            return no(-3);
        }
        J j = new J();
        j.tank = tank ? from : joints.get(from).tank;
        j.ahead = tank ? -9 : from;
        j.height = height;
        j.size = size;
        j.length = length;
        joints.add(j);
        return joints.size() - 1;
    }

    int jet(int joint, int draw) {
        if (noJoint(joint)) {
            return no(-1);
        }
        if (joints.get(joint).jet >= 0) {
            return no(-3);
        }
        if (draw < 1) {
            return no(-4);
        }
        if (draw > 60 || jets.size() == 24) {
            return no(-6);
        }
        Jt t = new Jt();
        t.joint = joint;
        t.draw = draw;
        joints.get(joint).jet = jets.size();
        jets.add(t);
        return jets.size() - 1;
    }

    int play(int jet, boolean on) {
        if (noJet(jet)) {
            return no(-1);
        }
        if (on && cut(jets.get(jet).joint)) {
            return no(-3);
        }
        if (jets.get(jet).plays == on) {
            return 0;
        }
        jets.get(jet).plays = on;
        return 1;
    }

    int pipe(int joint, int size) {
        if (noJoint(joint)) {
            return no(-1);
        }
        if (size < 1) {
            return no(-4);
        }
        if (size > 9) {
            return no(-6);
        }
        int was = joints.get(joint).size;
        joints.get(joint).size = size;
        return was;
    }

    int leak(int joint, int v) {
        if (noJoint(joint)) {
            return no(-1);
        }
        if (v < 0) {
            return no(-4);
        }
        if (v > 60) {
            return no(-6);
        }
        int was = joints.get(joint).leak;
        joints.get(joint).leak = v;
        return was;
    }

    // ---- heights

    int flow(int joint) {
        return noJoint(joint) ? no(-1) : flowOf(joint, playing(), told());
    }

    int head(int joint) {
        return noJoint(joint) ? noAsTold(-1) : headOf(joint, playing(), told(), waters());
    }

    int rise(int jet) {
        return noJet(jet) ? no(-1) : riseOf(jet, playing(), told(), waters());
    }

    int share(int jet, int other) {
        if (noJet(jet) || noJet(other) || jet == other) {
            return no(-1);
        }
        if (!jets.get(jet).plays || !jets.get(other).plays) {
            return no(-3);
        }
        boolean[] on = playing();
        on[other] = false;
        return riseOf(jet, on, told(), waters()) - riseOf(jet, playing(), told(), waters());
    }

    // ---- minutes

    int minutes(int n) {
        if (n < 1) {
            return no(-4);
        }
        if ((long) minute + n > 1440) {
            return no(-6);
        }
        for (int i = 0; i < tanks.size(); i++) {
            int out = outOf(i, playing(), told());
            T t = tanks.get(i);
            for (int m = 0; m < n; m++) {
                t.water += t.spring;
                if (t.water > t.area * t.depth) {
                    t.spilled += t.water - t.area * t.depth;
                    t.water = t.area * t.depth;
                }
                if (t.water >= out) {
                    t.water -= out;
                } else {
                    t.lack += out - t.water;
                    t.water = 0;
                }
            }
        }
        minute += n;
        return minute;
    }

    int lasts(int tank) {
        if (noTank(tank)) {
            return no(-1);
        }
        T t = tanks.get(tank);
        int out = outOf(tank, playing(), told());
        int w = t.water;
        int n = 0;
        while (w > 0 && n < 1440) {
            w = Math.max(0, Math.min(w + t.spring, t.area * t.depth) - out);
            n++;
        }
        return w == 0 ? n : -9;
    }

    // ---- the walk

    int view(int set, int from, int to, int rise) {
        if (set == 0 || set < 0 || (set >> jets.size()) != 0) {
            return no(-1);
        }
        int last = views.isEmpty() ? -1 : views.get(views.size() - 1).to;
        if (from <= last || to < from || rise < 0) {
            return no(-4);
        }
        if (to > 1440 || rise > 500 || views.size() == 12) {
            return no(-6);
        }
        V v = new V();
        v.set = set;
        v.from = from;
        v.to = to;
        v.rise = rise;
        views.add(v);
        return views.size() - 1;
    }

    int unview() {
        if (views.isEmpty()) {
            return no(-3);
        }
        views.remove(views.size() - 1);
        return views.size();
    }

    private boolean nothingAhead() {
        for (V v : views) {
            if (v.to >= minute) {
                return false;
            }
        }
        return true;
    }

    private boolean[] bits(int set) {
        boolean[] on = new boolean[jets.size()];
        for (int i = 0; i < on.length; i++) {
            on[i] = (set >> i) % 2 != 0;
        }
        return on;
    }

    /** MINUTE, VIEW and JET of failing, WATER used, least WATER, with a RISE asked of all VIEWS (-1: their own). */
    private int[] goTheWalk(int asked) {
        int[] water = waters();
        int[] found = {-9, -9, -9, 0, Integer.MAX_VALUE};
        for (int w : water) {
            found[4] = Math.min(found[4], w);
        }
        int[][] outs = new int[views.size() + 1][tanks.size()];
        for (int v = 0; v <= views.size(); v++) {
            for (int i = 0; i < tanks.size(); i++) {
                outs[v][i] = outOf(i, bits(v < views.size() ? views.get(v).set : 0), told());
            }
        }
        for (int m = minute; m <= views.get(views.size() - 1).to; m++) {
            int now = views.size();
            for (int v = 0; v < views.size(); v++) {
                if (views.get(v).from <= m && m <= views.get(v).to) {
                    now = v;
                }
            }
            if (now < views.size()) {
                boolean[] on = bits(views.get(now).set);
                for (int i = 0; i < on.length; i++) {
                    if (on[i] && riseOf(i, on, told(), water) < (asked < 0 ? views.get(now).rise : asked)) {
                        found[0] = m;
                        found[1] = now;
                        found[2] = i;
                        return found;
                    }
                }
            }
            for (int i = 0; i < water.length; i++) {
                T t = tanks.get(i);
                water[i] = Math.min(t.area * t.depth, water[i] + t.spring);
                int out = Math.min(water[i], outs[now][i]);
                water[i] -= out;
                found[3] += out;
                found[4] = Math.min(found[4], water[i]);
            }
        }
        return found;
    }

    int walk(int what) {
        if (what < 0 || what > 4) {
            return no(-2);
        }
        return nothingAhead() ? no(-3) : goTheWalk(-1)[what];
    }

    int most() {
        if (nothingAhead()) {
            return no(-3);
        }
        // A greater RISE asked never fails later: so the greatest that goes well is found by halves.
        int good = 0;
        int bad = 501;
        while (bad - good > 1) {
            int middle = (good + bad) / 2;
            if (goTheWalk(middle)[0] == -9) {
                good = middle;
            } else {
                bad = middle;
            }
        }
        return good;
    }

    // ---- the boys

    int pace(int v) {
        if (v < 0) {
            return no(-4);
        }
        if (v > 30) {
            return no(-6);
        }
        int was = pace;
        pace = v;
        return was;
    }

    private boolean openAt(int jet, int m) {
        for (V v : views) {
            if (v.from <= m && m <= v.to && (v.set >> jet) % 2 != 0) {
                return true;
            }
        }
        return false;
    }

    private List<Task> allTasks() {
        List<Task> list = new ArrayList<>();
        for (int m = 0; m <= 1441; m++) {
            for (int i = 0; i < jets.size(); i++) {
                boolean was = openAt(i, m - 1);
                boolean is = openAt(i, m);
                if (was != is) {
                    Task t = new Task();
                    t.minute = m;
                    t.jet = i;
                    t.open = is ? 1 : 0;
                    list.add(t);
                }
            }
        }
        return list;
    }

    int tasks() {
        return allTasks().size();
    }

    int task(int i, int what) {
        List<Task> list = allTasks();
        if (i < 0 || i >= list.size()) {
            return no(-1);
        }
        if (what < 0 || what > 2) {
            return no(-2);
        }
        Task t = list.get(i);
        return what == 0 ? t.minute : what == 1 ? t.jet : t.open;
    }

    private boolean canFollow(Task b, Task a) {
        int run = Math.abs(jets.get(a.jet).joint - jets.get(b.jet).joint) * pace;
        return b.minute >= a.minute + run;
    }

    private boolean pair(List<Task> list, int a, boolean[] seen, int[] ahead) {
        for (int b = a + 1; b < list.size(); b++) {
            if (!seen[b] && canFollow(list.get(b), list.get(a))) {
                seen[b] = true;
                if (ahead[b] < 0 || pair(list, ahead[b], seen, ahead)) {
                    ahead[b] = a;
                    return true;
                }
            }
        }
        return false;
    }

    int boys() {
        List<Task> list = allTasks();
        if (list.size() > 60) {
            return no(-6);
        }
        int[] ahead = new int[list.size()];
        java.util.Arrays.fill(ahead, -1);
        int boys = list.size();
        for (int a = 0; a < list.size(); a++) {
            if (pair(list, a, new boolean[list.size()], ahead)) {
                boys--;
            }
        }
        return boys;
    }

    // ---- gauges

    int gauge(int jet, int v) {
        if (noJet(jet)) {
            return noAsTold(-1);
        }
        if (v < -1) {
            return noAsTold(-4);
        }
        if (v > 500) {
            return noAsTold(-6);
        }
        int was = jets.get(jet).gauge;
        jets.get(jet).gauge = v;
        return was;
    }

    int tol(int v) {
        if (v < 0) {
            return no(-4);
        }
        if (v > 50) {
            return no(-6);
        }
        int was = tol;
        tol = v;
        return was;
    }

    private boolean anyRead() {
        for (Jt t : jets) {
            if (t.gauge >= 0) {
                return true;
            }
        }
        return false;
    }

    private boolean explains(int[] leaks) {
        for (int i = 0; i < jets.size(); i++) {
            int g = jets.get(i).gauge;
            if (g >= 0 && Math.abs(riseOf(i, playing(), leaks, waters()) - g) > tol) {
                return false;
            }
        }
        return true;
    }

    private int[] explanation() {
        int n = joints.size();
        if (!anyRead()) {
            return new int[] {-9, -9, -9, -9, 4};
        }
        if (explains(new int[n])) {
            return new int[] {-9, -9, -9, -9, 0};
        }
        for (int a = 0; a < n; a++) {
            for (int v = 1; v <= 60; v++) {
                int[] leaks = new int[n];
                leaks[a] = v;
                if (explains(leaks)) {
                    return new int[] {a, v, -9, -9, 1};
                }
            }
        }
        for (int a = 0; a < n; a++) {
            for (int b = a + 1; b < n; b++) {
                for (int v = 1; v <= 12; v++) {
                    for (int w = 1; w <= 12; w++) {
                        int[] leaks = new int[n];
                        leaks[a] = v;
                        leaks[b] = w;
                        if (explains(leaks)) {
                            return new int[] {a, v, b, w, 2};
                        }
                    }
                }
            }
        }
        return new int[] {-9, -9, -9, -9, 3};
    }

    int explain() {
        return explanation()[4];
    }

    int explained(int what) {
        return what < 0 || what > 3 ? no(-2) : explanation()[what];
    }

    int rivals() {
        int found = 0;
        for (int a = 0; a < joints.size() && anyRead(); a++) {
            boolean one = false;
            for (int v = 1; v <= 60; v++) {
                int[] leaks = new int[joints.size()];
                leaks[a] = v;
                one = one || explains(leaks);
            }
            found += one ? 1 : 0;
        }
        return found;
    }

    // ---- frost

    private boolean allBehindGone(int joint, boolean[] gone) {
        for (int k = 0; k < joints.size(); k++) {
            if (joints.get(k).ahead == joint && !gone[k]) {
                return false;
            }
        }
        return true;
    }

    private boolean[] gone() {
        boolean[] gone = new boolean[joints.size()];
        for (int j = 0; j < gone.length; j++) {
            gone[j] = joints.get(j).empty;
        }
        return gone;
    }

    int empty(int joint) {
        if (noJoint(joint)) {
            return no(-1);
        }
        J j = joints.get(joint);
        if (j.empty || !allBehindGone(joint, gone()) || (j.jet >= 0 && jets.get(j.jet).plays)) {
            return no(-3);
        }
        j.empty = true;
        return 1;
    }

    int fill(int joint) {
        if (noJoint(joint)) {
            return no(-1);
        }
        J j = joints.get(joint);
        if (!j.empty || (j.ahead >= 0 && joints.get(j.ahead).empty)) {
            return no(-3);
        }
        j.empty = false;
        return 1;
    }

    int order(int i) {
        boolean[] gone = gone();
        List<Integer> row = new ArrayList<>();
        boolean more = true;
        while (more) {
            int best = -1;
            for (int j = 0; j < gone.length; j++) {
                boolean may = !gone[j] && allBehindGone(j, gone);
                if (may && (best < 0 || joints.get(j).height > joints.get(best).height)) {
                    best = j;
                }
            }
            more = best >= 0;
            if (more) {
                gone[best] = true;
                row.add(best);
            }
        }
        return i < 0 || i >= row.size() ? -9 : row.get(i);
    }

    // ---- looking

    int tankOf(int tank, int what) {
        if (noTank(tank)) {
            return no(-1);
        }
        T t = tanks.get(tank);
        int[] told = {t.floor + t.water / t.area, t.water, t.spring, t.spilled, t.lack,
            outOf(tank, playing(), told())};
        return what < 0 || what > 5 ? no(-2) : told[what];
    }

    int jointOf(int joint, int what) {
        if (noJoint(joint)) {
            return no(-1);
        }
        J j = joints.get(joint);
        int[] told = {j.height, j.size, j.length, j.tank, j.ahead, j.jet, j.empty ? 1 : 0, j.leak,
            lossOf(joint, playing(), told())};
        return what < 0 || what > 8 ? no(-2) : told[what];
    }

    int count(int what) {
        int plays = 0;
        for (Jt t : jets) {
            plays += t.plays ? 1 : 0;
        }
        int empties = 0;
        for (J j : joints) {
            empties += j.empty ? 1 : 0;
        }
        int[] told = {minute, tanks.size(), joints.size(), jets.size(), plays, views.size(), empties};
        if (what >= 0 && what <= 6) {
            return told[what];
        }
        return what >= 11 && what <= 16 ? refused[what - 10] : -9;
    }
}
