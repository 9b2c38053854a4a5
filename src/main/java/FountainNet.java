import java.util.ArrayList;

/** Fountains of a garden; what each call promises stands in DOC.md. */
public final class FountainNet {
    private static final int NOBODY = -1;
    private static final int OTHER = -2;
    private static final int STATE = -3;
    private static final int BELOW = -4;
    private static final int ROOM = -6;
    private static final int REFUSAL_KINDS = 6;
    private static final int NONE_SUCH = -9;
    private static final int REFUSED_AS_TOLD = 1000000000;

    private static final int MOST_TANKS = 4;
    private static final int MOST_JOINTS = 30;
    private static final int MOST_JETS = 24;
    private static final int MOST_VIEWS = 12;
    private static final int MOST_TASKS = 2 * MOST_VIEWS * MOST_JETS;
    private static final int MOST_TASKS_OF_BOYS = 60;
    private static final int MOST_MINUTES = 1440;
    private static final int MOST_FEET = 500;
    private static final int MOST_AREA = 1000;
    private static final int MOST_DEPTH = 60;
    private static final int MOST_SPRING = 500;
    private static final int MOST_SIZE = 9;
    private static final int MOST_LENGTH = 200;
    private static final int MOST_DRAW = 60;
    private static final int MOST_LEAK = 60;
    private static final int MOST_LEAK_OF_TWO = 12;
    private static final int MOST_RISE = 500;
    private static final int MOST_PACE = 30;
    private static final int MOST_TOL = 50;

    private final Garden garden;
    private final ArrayList<View> views;
    private final Stroll stroll;
    private final TaskList taskList;
    private final LeakSearch search;
    private final int[] refusals;
    private int minutesPerJoint;

    public FountainNet() {
        garden = new Garden();
        views = new ArrayList<View>();
        stroll = new Stroll(garden, views);
        taskList = new TaskList(garden, views);
        search = new LeakSearch(garden);
        refusals = new int[REFUSAL_KINDS + 1];
        minutesPerJoint = 1;
    }

    public int tank(int floor, int area, int depth, int spring) {
        if (floor < 0 || area < 1 || depth < 1 || spring < 0) {
            return refuse(BELOW);
        }
        if (floor > MOST_FEET || area > MOST_AREA || depth > MOST_DEPTH || spring > MOST_SPRING) {
            return refuse(ROOM);
        }
        int number = garden.tanks.size();
        if (number >= MOST_TANKS) {
            return refuse(ROOM);
        }
        garden.tanks.add(new Tank(number, floor, area, depth, spring));
        return number;
    }

    public int set(int tank, int what, int v) {
        Tank it = garden.tankAt(tank);
        if (it == null) {
            return refuse(NOBODY);
        }
        if (what < 0 || what > 1) {
            return refuse(OTHER);
        }
        if (v < 0) {
            return refuse(BELOW);
        }
        if (v > (what == 0 ? MOST_SPRING : it.capacity())) {
            return refuse(ROOM);
        }
        return what == 0 ? it.changeSpring(v) : it.changeWater(v);
    }

    public int joint(boolean tank, int from, int height, int size, int length) {
        Joint ahead = tank ? null : garden.jointAt(from);
        Tank feeder = tank ? garden.tankAt(from) : feederOf(ahead);
        if (feeder == null) {
            return refuse(NOBODY);
        }
        if (height < 0 || size < 1 || length < 1) {
            return refuse(BELOW);
        }
        int number = garden.joints.size();
        if (height > MOST_FEET || size > MOST_SIZE || length > MOST_LENGTH || number >= MOST_JOINTS) {
            return refuse(ROOM);
        }
        if (ahead != null && ahead.isEmpty) {
            return refuse(STATE);
        }
        garden.joints.add(new Joint(number, feeder, ahead, height, size, length));
        return number;
    }

    public int jet(int joint, int draw) {
        Joint place = garden.jointAt(joint);
        if (place == null) {
            return refuse(NOBODY);
        }
        if (place.jetThere != null) {
            return refuse(STATE);
        }
        if (draw < 1) {
            return refuse(BELOW);
        }
        int number = garden.jets.size();
        if (draw > MOST_DRAW || number >= MOST_JETS) {
            return refuse(ROOM);
        }
        Jet made = new Jet(number, place, draw);
        place.jetThere = made;
        garden.jets.add(made);
        return number;
    }

    public int play(int jet, boolean on) {
        Jet it = garden.jetAt(jet);
        if (it == null) {
            return refuse(NOBODY);
        }
        if (on && it.place.isEmpty) {
            return refuse(STATE);
        }
        if (it.isIn(garden.playing) == on) {
            return 0;
        }
        garden.playing ^= it.bit;
        return 1;
    }

    public int pipe(int joint, int size) {
        Joint it = garden.jointAt(joint);
        if (it == null) {
            return refuse(NOBODY);
        }
        if (size < 1) {
            return refuse(BELOW);
        }
        if (size > MOST_SIZE) {
            return refuse(ROOM);
        }
        int was = it.size;
        it.size = size;
        return was;
    }

    public int leak(int joint, int v) {
        Joint it = garden.jointAt(joint);
        if (it == null) {
            return refuse(NOBODY);
        }
        if (v < 0) {
            return refuse(BELOW);
        }
        if (v > MOST_LEAK) {
            return refuse(ROOM);
        }
        int was = it.toldLeak;
        it.toldLeak = v;
        return was;
    }

    public int flow(int joint) {
        Joint it = garden.jointAt(joint);
        if (it == null) {
            return refuse(NOBODY);
        }
        garden.reckonAsItIs();
        return it.flowNow;
    }

    public int head(int joint) {
        Joint it = garden.jointAt(joint);
        if (it == null) {
            return refuseAsTold(NOBODY);
        }
        garden.reckonAsItIs();
        return it.headWith(it.feeder.water);
    }

    public int rise(int jet) {
        Jet it = garden.jetAt(jet);
        if (it == null) {
            return refuse(NOBODY);
        }
        garden.reckonAsItIs();
        return it.riseAmong(garden.playing, it.place.feeder.water);
    }

    public int share(int jet, int other) {
        Jet it = garden.jetAt(jet);
        Jet shut = garden.jetAt(other);
        if (it == null || shut == null || it == shut) {
            return refuse(NOBODY);
        }
        if (!it.isIn(garden.playing) || !shut.isIn(garden.playing)) {
            return refuse(STATE);
        }
        int water = it.place.feeder.water;
        garden.reckonAsItIs();
        int together = it.riseAmong(garden.playing, water);
        int others = garden.playing & ~shut.bit;
        garden.reckon(others, false);
        return it.riseAmong(others, water) - together;
    }

    public int minutes(int n) {
        if (n < 1) {
            return refuse(BELOW);
        }
        if (n > MOST_MINUTES - garden.minute) {
            return refuse(ROOM);
        }
        garden.reckonAsItIs();
        for (int i = 0; i < garden.tanks.size(); i++) {
            garden.tanks.get(i).passMinutes(n);
        }
        garden.minute += n;
        return garden.minute;
    }

    public int lasts(int tank) {
        Tank it = garden.tankAt(tank);
        if (it == null) {
            return refuse(NOBODY);
        }
        garden.reckonAsItIs();
        int water = it.water;
        for (int passed = 0; passed <= MOST_MINUTES; passed++) {
            if (water == 0) {
                return passed;
            }
            water = it.waterAfterMinute(water);
        }
        return NONE_SUCH;
    }

    public int view(int set, int from, int to, int rise) {
        if (set == 0 || (set & ~garden.allJets()) != 0) {
            return refuse(NOBODY);
        }
        int number = views.size();
        int lastMinute = number == 0 ? -1 : views.get(number - 1).to;
        if (from <= lastMinute || to < from || rise < 0) {
            return refuse(BELOW);
        }
        if (to > MOST_MINUTES || rise > MOST_RISE || number >= MOST_VIEWS) {
            return refuse(ROOM);
        }
        views.add(new View(set, from, to, rise));
        return number;
    }

    public int unview() {
        int number = views.size();
        if (number == 0) {
            return refuse(STATE);
        }
        views.remove(number - 1);
        return number - 1;
    }

    public int walk(int what) {
        if (what < 0 || what > 4) {
            return refuse(OTHER);
        }
        if (!stroll.isAhead()) {
            return refuse(STATE);
        }
        stroll.go(true);
        switch (what) {
            case 0:
                return stroll.failMinute;
            case 1:
                return stroll.failView;
            case 2:
                return stroll.failJet;
            case 3:
                return stroll.waterUsed;
            default:
                return stroll.leastWater;
        }
    }

    public int most() {
        if (!stroll.isAhead()) {
            return refuse(STATE);
        }
        stroll.go(false);
        return stroll.lowestRise;
    }

    public int pace(int v) {
        if (v < 0) {
            return refuse(BELOW);
        }
        if (v > MOST_PACE) {
            return refuse(ROOM);
        }
        int was = minutesPerJoint;
        minutesPerJoint = v;
        return was;
    }

    public int tasks() {
        taskList.build();
        return taskList.size;
    }

    public int task(int i, int what) {
        taskList.build();
        if (i < 0 || i >= taskList.size) {
            return refuse(NOBODY);
        }
        if (what < 0 || what > 2) {
            return refuse(OTHER);
        }
        return taskList.tell(i, what);
    }

    public int boys() {
        taskList.build();
        if (taskList.size > MOST_TASKS_OF_BOYS) {
            return refuse(ROOM);
        }
        return taskList.fewestBoys(minutesPerJoint);
    }

    public int gauge(int jet, int v) {
        Jet it = garden.jetAt(jet);
        if (it == null) {
            return refuseAsTold(NOBODY);
        }
        if (v < -1) {
            return refuseAsTold(BELOW);
        }
        if (v > MOST_RISE) {
            return refuseAsTold(ROOM);
        }
        int was = it.reading;
        it.reading = v;
        return was;
    }

    public int tol(int v) {
        if (v < 0) {
            return refuse(BELOW);
        }
        if (v > MOST_TOL) {
            return refuse(ROOM);
        }
        int was = search.tolerance;
        search.tolerance = v;
        return was;
    }

    public int explain() {
        return search.seek();
    }

    public int explained(int what) {
        if (what < 0 || what > 3) {
            return refuse(OTHER);
        }
        search.seek();
        switch (what) {
            case 0:
                return search.firstJoint;
            case 1:
                return search.firstLeak;
            case 2:
                return search.secondJoint;
            default:
                return search.secondLeak;
        }
    }

    public int rivals() {
        return search.howManyAlone();
    }

    public int empty(int joint) {
        Joint it = garden.jointAt(joint);
        if (it == null) {
            return refuse(NOBODY);
        }
        if (it.isEmpty || !garden.mayBeEmptied(it)) {
            return refuse(STATE);
        }
        it.isEmpty = true;
        return 1;
    }

    public int fill(int joint) {
        Joint it = garden.jointAt(joint);
        if (it == null) {
            return refuse(NOBODY);
        }
        if (!it.isEmpty || (it.ahead != null && it.ahead.isEmpty)) {
            return refuse(STATE);
        }
        it.isEmpty = false;
        return 1;
    }

    public int order(int i) {
        return garden.jointInOrder(i);
    }

    public int tankOf(int tank, int what) {
        Tank it = garden.tankAt(tank);
        if (it == null) {
            return refuse(NOBODY);
        }
        switch (what) {
            case 0:
                return it.levelWith(it.water);
            case 1:
                return it.water;
            case 2:
                return it.spring;
            case 3:
                return it.spilled;
            case 4:
                return it.lack;
            case 5:
                garden.reckonAsItIs();
                return it.flowNow;
            default:
                return refuse(OTHER);
        }
    }

    public int jointOf(int joint, int what) {
        Joint it = garden.jointAt(joint);
        if (it == null) {
            return refuse(NOBODY);
        }
        switch (what) {
            case 0:
                return it.height;
            case 1:
                return it.size;
            case 2:
                return it.length;
            case 3:
                return it.feeder.number;
            case 4:
                return it.ahead == null ? NONE_SUCH : it.ahead.number;
            case 5:
                return it.jetThere == null ? NONE_SUCH : it.jetThere.number;
            case 6:
                return it.isEmpty ? 1 : 0;
            case 7:
                return it.toldLeak;
            case 8:
                garden.reckonAsItIs();
                return it.lossNow();
            default:
                return refuse(OTHER);
        }
    }

    public int count(int what) {
        switch (what) {
            case 0:
                return garden.minute;
            case 1:
                return garden.tanks.size();
            case 2:
                return garden.joints.size();
            case 3:
                return garden.jets.size();
            case 4:
                return Integer.bitCount(garden.playing);
            case 5:
                return views.size();
            case 6:
                return garden.emptyPipes();
            default:
                return refusalsOf(what - 10);
        }
    }

    private int refusalsOf(int kind) {
        return kind >= 1 && kind <= REFUSAL_KINDS && kind < refusals.length ? refusals[kind] : NONE_SUCH;
    }

    private int refuse(int refusal) {
        int kind = -refusal;
        if (kind >= 0 && kind < refusals.length) {
            refusals[kind]++;
        }
        return refusal;
    }

    private int refuseAsTold(int refusal) {
        return REFUSED_AS_TOLD - refuse(refusal);
    }

    private static Tank feederOf(Joint joint) {
        return joint == null ? null : joint.feeder;
    }

    /** A TANK; flowNow is what Garden.reckon last found. */
    private static final class Tank {
        final int number;
        final int floor;
        final int area;
        final int depth;
        int spring;
        int water;
        int spilled;
        int lack;
        int flowNow;
        int strollWater;

        Tank(int number, int floor, int area, int depth, int spring) {
            this.number = number;
            this.floor = floor;
            this.area = area;
            this.depth = depth;
            this.spring = spring;
            this.water = area * depth;
        }

        int capacity() {
            return area * depth;
        }

        int levelWith(int someWater) {
            return area < 1 ? floor : floor + someWater / area;
        }

        int changeSpring(int v) {
            int was = spring;
            spring = v;
            return was;
        }

        int changeWater(int v) {
            int was = water;
            water = v;
            return was;
        }

        int withSpring(int someWater) {
            return Math.min(someWater + spring, capacity());
        }

        int waterAfterMinute(int someWater) {
            return Math.max(withSpring(someWater) - flowNow, 0);
        }

        void passMinutes(int n) {
            for (int i = 0; i < n; i++) {
                int filled = withSpring(water);
                spilled += water + spring - filled;
                lack += Math.max(flowNow - filled, 0);
                water = waterAfterMinute(water);
            }
        }
    }

    /** A JOINT and the PIPE that leads to it; flowNow and lossesTo are what Garden.reckon last found. */
    private static final class Joint {
        final int number;
        final Tank feeder;
        final Joint ahead;
        final int height;
        final int length;
        int size;
        int toldLeak;
        int triedLeak;
        boolean isEmpty;
        Jet jetThere;
        int flowNow;
        int lossesTo;
        boolean isDone;
        int notDoneBehind;

        Joint(int number, Tank feeder, Joint ahead, int height, int size, int length) {
            this.number = number;
            this.feeder = feeder;
            this.ahead = ahead;
            this.height = height;
            this.size = size;
            this.length = length;
        }

        int lossNow() {
            long divisor = 100L * size * size;
            return divisor < 1 ? 0 : (int) ((long) flowNow * flowNow * length / divisor);
        }

        int headWith(int feederWater) {
            boolean dry = isEmpty || feederWater == 0;
            return dry ? 0 : feeder.levelWith(feederWater) - lossesTo - height;
        }

        int drawAmong(int jetSet) {
            return jetThere != null && jetThere.isIn(jetSet) ? jetThere.draw : 0;
        }
    }

    private static final class Jet {
        final int number;
        final int bit;
        final Joint place;
        final int draw;
        int reading;

        Jet(int number, Joint place, int draw) {
            this.number = number;
            this.bit = 1 << number;
            this.place = place;
            this.draw = draw;
            this.reading = -1;
        }

        boolean isIn(int jetSet) {
            return (jetSet & bit) != 0;
        }

        /** The RISE if just the JETS of a set play, for which FLOWS are reckoned. */
        int riseAmong(int jetSet, int feederWater) {
            return isIn(jetSet) ? Math.max(place.headWith(feederWater), 0) * 9 / 10 : 0;
        }
    }

    private static final class View {
        final int jetSet;
        final int from;
        final int to;
        final int rise;

        View(int jetSet, int from, int to, int rise) {
            this.jetSet = jetSet;
            this.from = from;
            this.to = to;
            this.rise = rise;
        }
    }

    /** All that is built, the JETS that PLAY, and the MINUTE. */
    private static final class Garden {
        final ArrayList<Tank> tanks;
        final ArrayList<Joint> joints;
        final ArrayList<Jet> jets;
        int playing;
        int minute;

        Garden() {
            tanks = new ArrayList<Tank>();
            joints = new ArrayList<Joint>();
            jets = new ArrayList<Jet>();
        }

        Tank tankAt(int i) {
            return i >= 0 && i < tanks.size() ? tanks.get(i) : null;
        }

        Joint jointAt(int i) {
            return i >= 0 && i < joints.size() ? joints.get(i) : null;
        }

        Jet jetAt(int i) {
            return i >= 0 && i < jets.size() ? jets.get(i) : null;
        }

        int allJets() {
            return (1 << jets.size()) - 1;
        }

        void reckonAsItIs() {
            reckon(playing, false);
        }

        /** Finds all FLOWS and LOSSES as if just these JETS played, with LEAKS as tried or as told. */
        void reckon(int jetSet, boolean tried) {
            forgetFlows();
            for (int j = joints.size() - 1; j >= 0; j--) {
                Joint joint = joints.get(j);
                // What is behind an EMPTY PIPE is EMPTY too: so no FLOW comes from there.
                if (!joint.isEmpty) {
                    joint.flowNow += joint.drawAmong(jetSet) + (tried ? joint.triedLeak : joint.toldLeak);
                    addFlowAhead(joint);
                }
            }
            for (int j = 0; j < joints.size(); j++) {
                Joint joint = joints.get(j);
                joint.lossesTo = joint.lossNow() + (joint.ahead == null ? 0 : joint.ahead.lossesTo);
            }
        }

        private void forgetFlows() {
            for (int i = 0; i < tanks.size(); i++) {
                tanks.get(i).flowNow = 0;
            }
            for (int j = 0; j < joints.size(); j++) {
                joints.get(j).flowNow = 0;
            }
        }

        private void addFlowAhead(Joint joint) {
            if (joint.ahead == null) {
                joint.feeder.flowNow += joint.flowNow;
            } else {
                joint.ahead.flowNow += joint.flowNow;
            }
        }

        boolean mayBeEmptied(Joint joint) {
            for (int j = 0; j < joints.size(); j++) {
                Joint other = joints.get(j);
                if (other.ahead == joint && !other.isEmpty) {
                    return false;
                }
            }
            return joint.drawAmong(playing) == 0;
        }

        int emptyPipes() {
            int found = 0;
            for (int j = 0; j < joints.size(); j++) {
                found += joints.get(j).isEmpty ? 1 : 0;
            }
            return found;
        }

        int jointInOrder(int i) {
            beginOrder();
            for (int step = 0; step < joints.size(); step++) {
                Joint next = nextInOrder();
                if (next == null) {
                    return NONE_SUCH;
                }
                if (step == i) {
                    return next.number;
                }
                next.isDone = true;
                if (next.ahead != null) {
                    next.ahead.notDoneBehind--;
                }
            }
            return NONE_SUCH;
        }

        private void beginOrder() {
            for (int j = joints.size() - 1; j >= 0; j--) {
                joints.get(j).isDone = joints.get(j).isEmpty;
                joints.get(j).notDoneBehind = 0;
            }
            for (int j = joints.size() - 1; j >= 0; j--) {
                Joint joint = joints.get(j);
                if (!joint.isDone && joint.ahead != null) {
                    joint.ahead.notDoneBehind++;
                }
            }
        }

        private Joint nextInOrder() {
            Joint best = null;
            for (int j = 0; j < joints.size(); j++) {
                Joint joint = joints.get(j);
                boolean ready = !joint.isDone && joint.notDoneBehind == 0;
                if (ready && (best == null || joint.height > best.height)) {
                    best = joint;
                }
            }
            return best;
        }
    }

    /** GOING THE WALK on WATER of its own, so that nothing changes. */
    private static final class Stroll {
        private final Garden garden;
        private final ArrayList<View> views;
        int failMinute;
        int failView;
        int failJet;
        int waterUsed;
        int leastWater;
        int lowestRise;

        Stroll(Garden garden, ArrayList<View> views) {
            this.garden = garden;
            this.views = views;
        }

        boolean isAhead() {
            return lastMinute() >= garden.minute;
        }

        private int lastMinute() {
            return views.isEmpty() ? -1 : views.get(views.size() - 1).to;
        }

        /** Goes to the end, or to where it FAILS if the RISES told by VIEWS count. */
        void go(boolean risesCount) {
            begin();
            int last = lastMinute();
            int v = 0;
            int reckoned = -1;
            for (int m = garden.minute; m <= last; m++) {
                while (v < views.size() && views.get(v).to < m) {
                    v++;
                }
                View view = v < views.size() && views.get(v).from <= m ? views.get(v) : null;
                int jetSet = view == null ? 0 : view.jetSet;
                if (jetSet != reckoned) {
                    garden.reckon(jetSet, false);
                    reckoned = jetSet;
                }
                Jet low = view == null ? null : lookAtRises(view, risesCount);
                if (low != null) {
                    failMinute = m;
                    failView = v;
                    failJet = low.number;
                    return;
                }
                passMinute();
            }
        }

        private void begin() {
            failMinute = NONE_SUCH;
            failView = NONE_SUCH;
            failJet = NONE_SUCH;
            waterUsed = 0;
            leastWater = MOST_AREA * MOST_DEPTH;
            lowestRise = MOST_RISE;
            for (int i = 0; i < garden.tanks.size(); i++) {
                Tank tank = garden.tanks.get(i);
                tank.strollWater = tank.water;
                leastWater = Math.min(leastWater, tank.water);
            }
        }

        /** The first JET of a VIEW whose RISE is too low, if that counts; null if there is none. */
        private Jet lookAtRises(View view, boolean risesCount) {
            for (int i = 0; i < garden.jets.size(); i++) {
                Jet jet = garden.jets.get(i);
                if (jet.isIn(view.jetSet)) {
                    int rise = jet.riseAmong(view.jetSet, jet.place.feeder.strollWater);
                    lowestRise = Math.min(lowestRise, rise);
                    if (risesCount && rise < view.rise) {
                        return jet;
                    }
                }
            }
            return null;
        }

        private void passMinute() {
            for (int i = 0; i < garden.tanks.size(); i++) {
                Tank tank = garden.tanks.get(i);
                int filled = tank.withSpring(tank.strollWater);
                tank.strollWater = tank.waterAfterMinute(tank.strollWater);
                waterUsed += filled - tank.strollWater;
                leastWater = Math.min(leastWater, tank.strollWater);
            }
        }
    }

    /** The TASKS of all VIEWS, in rows made once and filled anew by build. */
    private static final class TaskList {
        private final Garden garden;
        private final ArrayList<View> views;
        private final int[] minuteOf;
        private final int[] jetOf;
        private final int[] opens;
        private final int[] jointOfTask;
        private final int[] mostApart;
        int size;

        TaskList(Garden garden, ArrayList<View> views) {
            this.garden = garden;
            this.views = views;
            minuteOf = new int[MOST_TASKS];
            jetOf = new int[MOST_TASKS];
            opens = new int[MOST_TASKS];
            jointOfTask = new int[MOST_TASKS];
            mostApart = new int[MOST_TASKS];
        }

        void build() {
            size = 0;
            int open = 0;
            int openTill = -1;
            for (int v = 0; v < views.size(); v++) {
                View view = views.get(v);
                if (openTill + 1 != view.from) {
                    addChange(openTill + 1, open, 0);
                    open = 0;
                }
                addChange(view.from, open, view.jetSet);
                open = view.jetSet;
                openTill = view.to;
            }
            addChange(openTill + 1, open, 0);
        }

        private void addChange(int minute, int before, int behind) {
            for (int i = 0; i < garden.jets.size(); i++) {
                Jet jet = garden.jets.get(i);
                if (jet.isIn(before) != jet.isIn(behind) && size < MOST_TASKS) {
                    minuteOf[size] = minute;
                    jetOf[size] = i;
                    opens[size] = jet.isIn(behind) ? 1 : 0;
                    jointOfTask[size] = jet.place.number;
                    size++;
                }
            }
        }

        /** Of a TASK that there is: 0 the MINUTE, 1 the JET, else if it is to be opened. */
        int tell(int i, int what) {
            if (i < 0 || i >= size || i >= minuteOf.length) {
                return NONE_SUCH;
            }
            return what == 0 ? minuteOf[i] : what == 1 ? jetOf[i] : opens[i];
        }

        /**
         * The most TASKS of which no BOY can do two: just so many BOYS are needed (Dilworth), as who can
         * do b behind a and c behind b can do c behind a. Of such TASKS no two are at one JOINT; and if by
         * JOINTS each is too near in time to the next one, all are, as RUNS add up.
         */
        int fewestBoys(int pace) {
            int fewest = 0;
            for (int joint = 0; joint < MOST_JOINTS; joint++) {
                for (int i = 0; i < size && i < mostApart.length; i++) {
                    if (jointOfTask[i] == joint) {
                        mostApart[i] = 1 + mostApartAhead(i, pace);
                        fewest = Math.max(fewest, mostApart[i]);
                    }
                }
            }
            return fewest;
        }

        private int mostApartAhead(int i, int pace) {
            if (i < 0 || i >= mostApart.length) {
                return 0;
            }
            int most = 0;
            for (int k = 0; k < size && k < mostApart.length; k++) {
                int run = (jointOfTask[i] - jointOfTask[k]) * pace;
                if (Math.abs(minuteOf[i] - minuteOf[k]) < run) {
                    most = Math.max(most, mostApart[k]);
                }
            }
            return most;
        }
    }

    /**
     * Seeks LEAKS that EXPLAIN the GAUGES; between two tries no LEAK is tried any more. More LEAK never
     * makes a RISE greater: that cuts the search short.
     */
    private static final class LeakSearch {
        private static final int TOO_LOW = 1;
        private static final int TOO_HIGH = 2;

        private final Garden garden;
        int tolerance;
        int firstJoint;
        int firstLeak;
        int secondJoint;
        int secondLeak;

        LeakSearch(Garden garden) {
            this.garden = garden;
        }

        /** What explain() answers; the JOINTS and LEAKS found are kept. */
        int seek() {
            forgetFound();
            if (!isAnyRead()) {
                return 4;
            }
            if (misses() == 0) {
                return 0;
            }
            int joints = garden.joints.size();
            for (int a = 0; a < joints; a++) {
                if (explainsAlone(garden.joints.get(a))) {
                    return 1;
                }
            }
            for (int a = 0; a < joints; a++) {
                for (int b = a + 1; b < joints; b++) {
                    if (explainTogether(garden.joints.get(a), garden.joints.get(b))) {
                        return 2;
                    }
                }
            }
            return 3;
        }

        int howManyAlone() {
            if (!isAnyRead()) {
                return 0;
            }
            int found = 0;
            for (int j = 0; j < garden.joints.size(); j++) {
                found += explainsAlone(garden.joints.get(j)) ? 1 : 0;
            }
            return found;
        }

        private void forgetFound() {
            firstJoint = NONE_SUCH;
            firstLeak = NONE_SUCH;
            secondJoint = NONE_SUCH;
            secondLeak = NONE_SUCH;
        }

        private boolean isAnyRead() {
            for (int i = 0; i < garden.jets.size(); i++) {
                if (garden.jets.get(i).reading >= 0) {
                    return true;
                }
            }
            return false;
        }

        private boolean explainsAlone(Joint joint) {
            boolean found = false;
            boolean tooLow = false;
            for (int leak = 1; leak <= MOST_LEAK && !found && !tooLow; leak++) {
                joint.triedLeak = leak;
                int missed = misses();
                tooLow = (missed & TOO_LOW) != 0;
                found = missed == 0;
            }
            if (found) {
                firstJoint = joint.number;
                firstLeak = joint.triedLeak;
            }
            joint.triedLeak = 0;
            return found;
        }

        private boolean explainTogether(Joint first, Joint second) {
            first.triedLeak = MOST_LEAK_OF_TWO;
            second.triedLeak = MOST_LEAK_OF_TWO;
            boolean tooHigh = (misses() & TOO_HIGH) != 0;
            boolean found = false;
            for (int one = 1; one <= MOST_LEAK_OF_TWO && !found && !tooHigh; one++) {
                first.triedLeak = one;
                boolean tooLow = false;
                for (int two = 1; two <= MOST_LEAK_OF_TWO && !found && !tooLow; two++) {
                    second.triedLeak = two;
                    int missed = misses();
                    tooLow = (missed & TOO_LOW) != 0;
                    found = missed == 0;
                }
            }
            if (found) {
                keepTwo(first, second);
            }
            first.triedLeak = 0;
            second.triedLeak = 0;
            return found;
        }

        private void keepTwo(Joint first, Joint second) {
            firstJoint = first.number;
            firstLeak = first.triedLeak;
            secondJoint = second.number;
            secondLeak = second.triedLeak;
        }

        /** How RISES with the LEAKS tried miss the GAUGES: 0 if they don't. */
        private int misses() {
            garden.reckon(garden.playing, true);
            int missed = 0;
            for (int i = 0; i < garden.jets.size(); i++) {
                Jet jet = garden.jets.get(i);
                if (jet.reading >= 0) {
                    int over = jet.riseAmong(garden.playing, jet.place.feeder.water) - jet.reading;
                    missed |= over > tolerance ? TOO_HIGH : over < -tolerance ? TOO_LOW : 0;
                }
            }
            return missed;
        }
    }
}
