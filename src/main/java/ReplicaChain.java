/**
 * A chain of replicas that is told in a text: writes run from its head to its tail, answers back.
 * The numbered promises that it keeps are in the project's document.
 */
public final class ReplicaChain {
    public static final int NONE = -1;

    // Where -1 is an answer of its own, this one says that what was asked for can't be.
    private static final int NO_SUCH = -2;
    private static final int MOST_BYTES = 1600;
    private static final int BYTES_A_FEED = 20;
    private static final int MOST_MEMBERS = 6;
    private static final int MOST_NODES = 8;
    private static final int MOST_KEYS = 4;
    private static final int MOST_UNITS = 30;
    private static final int MOST_WITHIN = 6;
    private static final int MOST_WRITES = 40;
    private static final int MOST_VALUE = 99;
    private static final int MOST_TICKS = 999;
    private static final int MOST_ACTS = 40;
    private static final int MOST_SEEN = 30;
    private static final int MOST_TIME = 100000;
    private static final int MOST_STEP_OF_TIME = 1000;
    private static final int MOST_DRAWS = 4;
    private static final int MOST_LOST = 5;
    private static final int MOST_DELAY = 9;
    private static final int BOXES = 3;
    private static final int NEAR_TICKS = 60;
    private static final int FAR_TICKS = 400;
    // Above every number of ticks that can be asked about.
    private static final int NEVER = 1000000;

    private final byte[] tape = new byte[MOST_BYTES];
    private int tapeLength;
    private Plan plan = new Plan();
    private Plan draft = new Plan();
    private final Reader reader = new Reader(tape, draft);
    private final Rules rules = new Rules(plan);

    // kept[at] is the chain as it is now; those below it are undone to, those up to top redone to.
    private final State[] kept = new State[MOST_ACTS + 1];
    private int at;
    private int top;
    private State now;
    // What look-aheads are played on, so that nothing is done to the chain itself.
    private final State trial = new State();

    private final State[] boxes = new State[BOXES];
    private final boolean[] boxFull = new boolean[BOXES];
    private final int[] lying = new int[MOST_MEMBERS];
    private int lyingCount;
    private final int[] order = new int[MOST_MEMBERS];
    private int fewest;
    private final Sightings sightings = new Sightings();
    // Index 0: no member was lost; index p + 1: the one at place p was.
    private final int[] answeredBehind = new int[MOST_MEMBERS + 1];
    private int time;

    public ReplicaChain() {
        begin();
    }

    public int feed(int a, int b, int c, int d, int e) {
        if (tapeLength + BYTES_A_FEED > MOST_BYTES) {
            return NONE;
        }
        layFour(a);
        layFour(b);
        layFour(c);
        layFour(d);
        layFour(e);
        return tapeLength;
    }

    private void layFour(int number) {
        for (int shift = 24; shift >= 0; shift -= 8) {
            if (tapeLength < tape.length) {
                tape[tapeLength] = (byte) (number >>> shift);
                tapeLength++;
            }
        }
    }

    public int end(int n) {
        if (n < 0 || n > tapeLength) {
            return NONE;
        }
        tapeLength = n;
        return n;
    }

    public int chain() {
        if (!reader.understands(tapeLength, draft)) {
            return NONE;
        }
        Plan before = plan;
        plan = draft;
        draft = before;
        tapeLength = 0;
        begin();
        findAnswerTimes();
        return plan.memberCount;
    }

    private void begin() {
        rules.follow(plan);
        at = 0;
        top = 0;
        now = stateAt(0);
        now.startAs(plan);
        for (int box = 0; box < BOXES; box++) {
            boxFull[box] = false;
        }
        lyingCount = 0;
        sightings.forget();
    }

    private State stateAt(int place) {
        State state = kept[place];
        if (state == null) {
            state = new State();
            kept[place] = state;
        }
        return state;
    }

    private void findAnswerTimes() {
        for (int scenario = 0; scenario < scenarios(); scenario++) {
            int lost = scenario - 1;
            int left = 0;
            for (int place = 0; place < plan.memberCount; place++) {
                if (place != lost) {
                    order[left] = plan.members[place];
                    left++;
                }
            }
            // With the head goes the write, which no other has yet.
            answeredBehind[scenario] = lost == 0 ? NEVER : ticksBack(left, ticksThere(left));
        }
    }

    // A first write meets no other message, so its way along the order is the sum of its delays.
    private int ticksThere(int members) {
        int ticks = 0;
        for (int place = 1; place < members; place++) {
            ticks += plan.slow.delay(order[place - 1], order[place], 1, 0, 0, now.tick + ticks);
        }
        return ticks;
    }

    // Goes on from the ticks that the way there took.
    private int ticksBack(int members, int ticksThere) {
        int ticks = ticksThere;
        for (int place = members - 1; place > 0; place--) {
            ticks += plan.slow.delay(order[place], order[place - 1], 1, 0, 1, now.tick + ticks);
        }
        return ticks;
    }

    // How many ways there are for one told member, or none, to have been lost.
    private int scenarios() {
        return plan.memberCount < 2 ? plan.memberCount : plan.memberCount + 1;
    }

    public int fault(int what) {
        switch (what) {
            case 0:
                return reader.faultKind;
            case 1:
                return reader.faultPlace;
            default:
                return NONE;
        }
    }

    public int row(int place) {
        return place < 0 || place >= now.size ? NONE : now.row[place];
    }

    public int node(int node, int what) {
        if (!isNode(node)) {
            return NO_SUCH;
        }
        switch (what) {
            case 0:
                return now.placeOf(node);
            case 1:
                return now.has[node];
            case 2:
                return now.clean[node];
            case 3:
                return now.has[node] - now.clean[node];
            case 4:
                return now.copier == node ? 1 : 0;
            default:
                return NO_SUCH;
        }
    }

    private boolean isNode(int node) {
        return node >= 0 && node < plan.nodeCount;
    }

    private boolean isKey(int key) {
        return key >= 0 && key < plan.keyCount;
    }

    private boolean isMember(int node) {
        return isNode(node) && now.placeOf(node) >= 0;
    }

    public int under(int place, int what) {
        return isLink(place, what) ? now.underWay(place, what) : NONE;
    }

    private boolean isLink(int place, int what) {
        return place >= 0 && place < now.size - 1 && (what == 0 || what == 1);
    }

    public int due(int place, int what) {
        if (!isLink(place, what) || now.underWay(place, what) == 0) {
            return NONE;
        }
        return now.ticksTillNext(place, what);
    }

    public int wrote(int write, int what) {
        if (write < 1 || write > now.headHas()) {
            return NONE;
        }
        switch (what) {
            case 0:
                return now.keys[write];
            case 1:
                return now.values[write];
            case 2:
                return now.headClean() >= write ? 1 : 0;
            case 3:
                return now.whoReaches(now.has, write);
            case 4:
                return now.whoReaches(now.clean, write);
            default:
                return NONE;
        }
    }

    public int write(int key, int value) {
        if (!canGive() || !isKey(key) || value < 0 || value > MOST_VALUE) {
            return NONE;
        }
        beginAct();
        return rules.give(now, key, value);
    }

    private boolean canGive() {
        return now.size > 0 && now.headHas() < MOST_WRITES;
    }

    private void beginAct() {
        if (at >= MOST_ACTS) {
            forgetOldest();
        }
        State next = stateAt(at + 1);
        next.copyFrom(now);
        at++;
        top = at;
        now = next;
    }

    private void forgetOldest() {
        State oldest = kept[0];
        for (int i = 0; i < MOST_ACTS; i++) {
            kept[i] = kept[i + 1];
        }
        kept[MOST_ACTS] = oldest;
        at = MOST_ACTS - 1;
    }

    public int tick() {
        if (now.size == 0 || now.tick >= MOST_TICKS) {
            return NONE;
        }
        beginAct();
        int came = rules.step(now);
        rules.draw(now);
        return came;
    }

    public int lose(int node) {
        if (!isMember(node) || now.size < 2) {
            return NONE;
        }
        beginAct();
        return rules.takeOut(now, node);
    }

    public int join(int node) {
        if (!isNode(node) || isMember(node) || now.copier != NONE) {
            return NONE;
        }
        if (now.size == 0 || now.size >= MOST_MEMBERS) {
            return NONE;
        }
        beginAct();
        now.copier = node;
        now.copyLeft = plan.copy;
        return now.copyLeft;
    }

    public boolean undo() {
        if (at == 0) {
            return false;
        }
        at--;
        now = stateAt(at);
        return true;
    }

    public boolean redo() {
        if (at >= top) {
            return false;
        }
        at++;
        now = stateAt(at);
        return true;
    }

    public int read(int node, int key) {
        if (!isMember(node) || !isKey(key)) {
            return NO_SUCH;
        }
        int asked = now.dirtyOf(node, key) > 0 ? now.row[now.size - 1] : node;
        return now.valueUpTo(key, now.clean[asked]);
    }

    public int lazy(int node, int key) {
        if (!isMember(node) || !isKey(key)) {
            return NO_SUCH;
        }
        return now.valueUpTo(key, now.clean[node]);
    }

    public int askers(int key) {
        if (!isKey(key)) {
            return NONE;
        }
        int bits = 0;
        for (int place = 0; place < now.size; place++) {
            int node = now.row[place];
            if (now.dirtyOf(node, key) > 0) {
                bits |= 1 << node;
            }
        }
        return bits;
    }

    public int stale(int key) {
        if (!isKey(key)) {
            return NONE;
        }
        int bits = 0;
        for (int place = 0; place < now.size; place++) {
            int node = now.row[place];
            int tail = now.row[now.size - 1];
            if (now.valueUpTo(key, now.clean[node]) != now.valueUpTo(key, now.clean[tail])) {
                bits |= 1 << node;
            }
        }
        return bits;
    }

    public int versions(int node, int key) {
        if (!isMember(node) || !isKey(key)) {
            return NONE;
        }
        return now.versionsOf(node, key);
    }

    public int version(int node, int key, int i) {
        if (!isMember(node) || !isKey(key) || i < 0) {
            return NONE;
        }
        int left = i;
        int write = now.latestUpTo(key, now.clean[node]);
        if (write > 0) {
            if (left == 0) {
                return write;
            }
            left--;
        }
        for (int dirty = now.clean[node] + 1; dirty <= now.has[node]; dirty++) {
            if (now.keys[dirty] == key) {
                if (left == 0) {
                    return dirty;
                }
                left--;
            }
        }
        return NONE;
    }

    public int will(int n, int what) {
        if (n < 0 || n > NEAR_TICKS || what < 0 || what > 1 || now.size == 0) {
            return NONE;
        }
        trial.copyFrom(now);
        for (int i = 0; i < n; i++) {
            rules.step(trial);
            if (what == 1) {
                rules.draw(trial);
            }
        }
        return trial.headClean();
    }

    public int when(int write) {
        if (write < 1 || write > now.headHas()) {
            return NONE;
        }
        trial.copyFrom(now);
        return ticksTillAnswered(trial, write);
    }

    private int ticksTillAnswered(State state, int write) {
        for (int ticks = 0; ticks <= FAR_TICKS; ticks++) {
            if (state.headClean() >= write) {
                return ticks;
            }
            rules.step(state);
        }
        return NONE;
    }

    public int still() {
        trial.copyFrom(now);
        for (int ticks = 0; ticks <= FAR_TICKS; ticks++) {
            if (trial.copier == NONE && trial.allUnderWay() == 0) {
                return ticks;
            }
            rules.step(trial);
        }
        return NONE;
    }

    public int drops(int nodes) {
        int members = now.memberBits();
        if ((nodes & ~members) != 0 || nodes == members) {
            return NONE;
        }
        return now.droppedWithout(nodes);
    }

    public int worst(int n, int what) {
        if (n < 1 || n > MOST_LOST || n >= now.size || what < 0 || what > 1) {
            return NONE;
        }
        int members = now.memberBits();
        int most = NONE;
        int which = 0;
        for (int nodes = 0; nodes < 1 << MOST_NODES; nodes++) {
            if ((nodes & ~members) == 0 && Integer.bitCount(nodes) == n && now.droppedWithout(nodes) > most) {
                most = now.droppedWithout(nodes);
                which = nodes;
            }
        }
        return what == 0 ? most : which;
    }

    public int safe() {
        int lost = NONE;
        // A member has no more than those ahead of it, so the worst to lose are the first ones.
        for (int place = 0; place < now.size; place++) {
            if (now.has[now.row[place]] >= now.headClean()) {
                lost = place;
            }
        }
        return lost;
    }

    public int answered() {
        return now.size == 0 ? NONE : now.headClean();
    }

    public int soonest() {
        lyingCount = 0;
        if (now.size == 0) {
            return NONE;
        }
        fewest = NEVER;
        tryOrders(0, 0, 0);
        lyingCount = now.size;
        return fewest;
    }

    // Orders come by numbers, and only a sooner one is taken, so the first of like ones stays.
    private void tryOrders(int placed, int used, int ticks) {
        if (ticks >= fewest) {
            return;
        }
        if (placed >= now.size || placed >= order.length) {
            takeOrderIfSooner(ticks);
            return;
        }
        int left = now.memberBits() & ~used;
        for (int node = 0; node < MOST_NODES; node++) {
            if ((left >> node & 1) == 1) {
                tryOrdersWith(node, placed, used, ticks);
            }
        }
    }

    private void tryOrdersWith(int node, int placed, int used, int ticks) {
        int wait = placed == 0 ? 0 : plan.slow.delay(order[placed - 1], node, 1, 0, 0, now.tick + ticks);
        order[placed] = node;
        tryOrders(placed + 1, used | 1 << node, ticks + wait);
    }

    private void takeOrderIfSooner(int ticksThere) {
        int ticks = ticksBack(now.size, ticksThere);
        if (ticks < fewest) {
            fewest = ticks;
            System.arraycopy(order, 0, lying, 0, now.size);
        }
    }

    public int weed(int what) {
        if (what < 0 || what > 1 || now.size < 2) {
            return NONE;
        }
        int best = NONE;
        int bestTicks = NEVER;
        for (int place = 0; place < now.size; place++) {
            trial.copyFrom(now);
            int dropped = rules.takeOut(trial, now.row[place]);
            int ticks = dropped > 0 ? NONE : ticksTillAnswered(trial, trial.headHas());
            if (ticks != NONE && ticks < bestTicks) {
                best = now.row[place];
                bestTicks = ticks;
            }
        }
        if (best == NONE) {
            return NONE;
        }
        return what == 0 ? best : bestTicks;
    }

    public int fullest() {
        int best = NONE;
        int most = NONE;
        for (int place = 0; place < now.size - 1; place++) {
            int messages = now.underWay(place, 0) + now.underWay(place, 1);
            if (messages > most) {
                most = messages;
                best = place;
            }
        }
        return best;
    }

    public int trip() {
        if (!canGive()) {
            return NONE;
        }
        trial.copyFrom(now);
        int number = rules.give(trial, 0, 0);
        return ticksTillAnswered(trial, number);
    }

    public int without(int node) {
        if (!canGive() || !isMember(node) || now.size < 2) {
            return NONE;
        }
        trial.copyFrom(now);
        int number = rules.give(trial, 0, 0);
        rules.takeOut(trial, node);
        return trial.headHas() < number ? NONE : ticksTillAnswered(trial, number);
    }

    public int latest(int key) {
        return !isKey(key) || now.size == 0 ? NONE : now.latestUpTo(key, now.headHas());
    }

    public int traffic() {
        return now.allUnderWay();
    }

    public int lag(int node) {
        return isMember(node) ? now.headHas() - now.has[node] : NONE;
    }

    public int peak(int what) {
        if (what < 0 || what > 1 || now.size == 0) {
            return NONE;
        }
        int most = NONE;
        int first = 0;
        trial.copyFrom(now);
        for (int ticks = 0; ticks <= NEAR_TICKS; ticks++) {
            if (trial.allUnderWay() > most) {
                most = trial.allUnderWay();
                first = ticks;
            }
            rules.step(trial);
        }
        return what == 0 ? most : first;
    }

    public int dirtiest(int what) {
        int most = 0;
        int bestNode = NONE;
        int bestKey = NONE;
        for (int place = 0; place < now.size; place++) {
            for (int key = 0; key < plan.keyCount; key++) {
                int count = now.versionsOf(now.row[place], key);
                if (count > most) {
                    most = count;
                    bestNode = now.row[place];
                    bestKey = key;
                }
            }
        }
        return most == 0 ? NONE : oneOf(what, bestNode, bestKey, most);
    }

    private static int oneOf(int what, int first, int second, int third) {
        switch (what) {
            case 0:
                return first;
            case 1:
                return second;
            case 2:
                return third;
            default:
                return NONE;
        }
    }

    public int soonestOf(int what) {
        int soonest = NEVER;
        int bestPlace = NONE;
        int bestWay = NONE;
        for (int place = 0; place < now.size - 1; place++) {
            for (int way = 0; way <= 1; way++) {
                if (now.underWay(place, way) > 0 && now.ticksTillNext(place, way) < soonest) {
                    soonest = now.ticksTillNext(place, way);
                    bestPlace = place;
                    bestWay = way;
                }
            }
        }
        return bestPlace == NONE ? NONE : oneOf(what, bestPlace, bestWay, soonest);
    }

    public int idle() {
        return (1 << plan.nodeCount) - 1 & ~now.memberBits();
    }

    public int law(int n) {
        if (n < 1 || n > MOST_DELAY || !canGive()) {
            return NONE;
        }
        rules.pace = n;
        trial.copyFrom(now);
        int number = rules.give(trial, 0, 0);
        int ticks = ticksTillAnswered(trial, number);
        rules.pace = 0;
        return ticks;
    }

    public int odds(int n, int part) {
        if (n < 0 || n > MOST_DRAWS || part < 0 || part > 1) {
            return NONE;
        }
        int upper = 1;
        int lower = 1;
        for (int ticks = 1; ticks <= n; ticks++) {
            if (canLoseBehind(ticks)) {
                upper *= 100 - plan.loss;
                lower *= 100;
            }
        }
        int common = commonDivisor(lower, upper);
        if (common == 0) {
            return NONE;
        }
        return part == 0 ? upper / common : lower / common;
    }

    // A draw takes nobody from a chain of one; the one that copies may make it a chain of two.
    private boolean canLoseBehind(int ticks) {
        boolean hasJoined = now.copier != NONE && now.copyLeft <= ticks;
        return now.size + (hasJoined ? 1 : 0) >= 2;
    }

    private static int commonDivisor(int a, int b) {
        int high = a;
        int low = b;
        for (int i = 0; i < 64 && low != 0; i++) {
            int rest = high % low;
            high = low;
            low = rest;
        }
        return high;
    }

    public int lies(int i) {
        return i < 0 || i >= lyingCount ? NO_SUCH : lying[i];
    }

    public int seen(int ticks, boolean is) {
        if (ticks < 0 || ticks > NEAR_TICKS || plan.memberCount == 0) {
            return NONE;
        }
        return sightings.tell(ticks, is, time);
    }

    public boolean untell(int seen) {
        return sightings.takeBack(seen, time);
    }

    public int later(int by) {
        if (by < 0 || by > MOST_STEP_OF_TIME || time + by > MOST_TIME) {
            return NONE;
        }
        time += by;
        return time;
    }

    public int fits(int k) {
        return fitsAnsweredBy(NEVER, k);
    }

    // Of the scenarios that fit, how many are answered behind so many ticks.
    private int fitsAnsweredBy(int ticks, int k) {
        int count = 0;
        for (int i = 0; i < scenarios(); i++) {
            if (answeredBehind[i] <= ticks && sightings.allow(answeredBehind[i], k)) {
                count++;
            }
        }
        return count;
    }

    public int culprit(int i, int k) {
        int left = i;
        for (int scenario = 0; scenario < scenarios(); scenario++) {
            if (sightings.allow(answeredBehind[scenario], k)) {
                if (left == 0) {
                    return scenario - 1;
                }
                left--;
            }
        }
        return NO_SUCH;
    }

    public int ask(int what, int k) {
        int all = fits(k);
        if (all == 0 || what < 0 || what > 1) {
            return NONE;
        }
        int bestTicks = NONE;
        int fewestLeft = NEVER;
        for (int ticks = 0; ticks <= NEAR_TICKS; ticks++) {
            int so = fitsAnsweredBy(ticks, k);
            int left = Math.max(so, all - so);
            if (left < fewestLeft) {
                fewestLeft = left;
                bestTicks = ticks;
            }
        }
        return what == 0 ? bestTicks : fewestLeft;
    }

    public int image(int box) {
        if (box < 0 || box >= BOXES) {
            return NONE;
        }
        State state = boxes[box];
        if (state == null) {
            state = new State();
            boxes[box] = state;
        }
        state.copyFrom(now);
        boxFull[box] = true;
        return now.tick;
    }

    public int back(int box) {
        if (box < 0 || box >= BOXES || !boxFull[box]) {
            return NONE;
        }
        State state = boxes[box];
        if (state == null) {
            return NONE;
        }
        at = 0;
        top = 0;
        now = stateAt(0);
        now.copyFrom(state);
        return now.tick;
    }

    public int about(int what) {
        switch (what) {
            case 0:
                return now.size;
            case 1:
                return plan.nodeCount;
            case 2:
                return plan.keyCount;
            case 3:
                return now.headHas();
            case 4:
                return now.dropped;
            case 5:
                return now.copyLeft;
            case 6:
                return now.tick;
            case 7:
                return now.seed;
            case 8:
                return at;
            case 9:
                return top - at;
            case 10:
                return sightings.count;
            case 11:
                return time;
            case 12:
                return tapeLength;
            case 13:
                return plan.units;
            case 14:
                return lyingCount;
            case 15:
                return plan.copy;
            case 16:
                return plan.loss;
            default:
                return NONE;
        }
    }

    /** What is told of slow, as steps for a stack: numbers as they are, all else below 0. */
    private static final class Formula {
        static final int OR = -1;
        static final int AND = -2;
        static final int NOT = -3;
        static final int LESS = -4;
        static final int MORE = -5;
        static final int LIKE = -6;
        static final int PLUS = -7;
        static final int MINUS = -8;
        static final int TIMES = -9;
        static final int BY = -10;
        static final int REST = -11;
        // The facts from, to, write, under, back, tick: this one and those below it.
        static final int FIRST_FACT = -20;
        static final int FACTS = 6;
        // Each unit, what joins it to others, and as many nots ahead of it as the depth leaves.
        private static final int MOST_STEPS = MOST_UNITS * (MOST_WITHIN + 3);

        private final int[] steps = new int[MOST_STEPS];
        private final int[] stack = new int[MOST_UNITS + 1];
        private final int[] facts = new int[FACTS];
        private int length;

        void clear() {
            length = 0;
        }

        void add(int step) {
            if (length < steps.length) {
                steps[length] = step;
                length++;
            }
        }

        int delay(int from, int to, int write, int under, int back, int tick) {
            if (length == 0) {
                return 1;
            }
            facts[0] = from;
            facts[1] = to;
            facts[2] = write;
            facts[3] = under;
            facts[4] = back;
            facts[5] = tick;
            int depth = 0;
            for (int i = 0; i < length; i++) {
                int step = steps[i];
                if (step >= 0 || step <= FIRST_FACT) {
                    if (depth < stack.length) {
                        stack[depth] = step >= 0 ? step : factOf(step);
                        depth++;
                    }
                } else if (step == NOT) {
                    if (depth > 0) {
                        stack[depth - 1] = stack[depth - 1] == 0 ? 1 : 0;
                    }
                } else if (depth > 1) {
                    depth--;
                    stack[depth - 1] = joined(step, stack[depth - 1], stack[depth]);
                }
            }
            return Math.max(1, Math.min(MOST_DELAY, stack[0]));
        }

        private int factOf(int step) {
            int fact = FIRST_FACT - step;
            return fact >= 0 && fact < FACTS ? facts[fact] : 0;
        }

        private static int joined(int step, int a, int b) {
            switch (step) {
                case OR:
                    return a != 0 || b != 0 ? 1 : 0;
                case AND:
                    return a != 0 && b != 0 ? 1 : 0;
                case LESS:
                    return a < b ? 1 : 0;
                case MORE:
                    return a > b ? 1 : 0;
                case LIKE:
                    return a == b ? 1 : 0;
                case PLUS:
                    return a + b;
                case MINUS:
                    return a - b;
                case TIMES:
                    return a * b;
                case BY:
                    return b == 0 ? 0 : a / b;
                case REST:
                    return b == 0 ? 0 : a % b;
                default:
                    return 0;
            }
        }
    }

    /** All that a text tells. */
    private static final class Plan {
        final int[] members = new int[MOST_MEMBERS];
        final long[] nodeNames = new long[MOST_NODES];
        final long[] keyNames = new long[MOST_KEYS];
        final Formula slow = new Formula();
        int memberCount;
        int nodeCount;
        int keyCount;
        int units;
        int copy;
        int loss;
        int draw;

        Plan() {
            clear();
        }

        void clear() {
            slow.clear();
            memberCount = 0;
            nodeCount = 0;
            keyCount = 0;
            units = 0;
            copy = 2;
            loss = 0;
            draw = 0;
        }
    }

    /** Reads a text into a plan, or finds its first fault. */
    private static final class Reader {
        private static final int END = 0;
        private static final int WORD = 1;
        private static final int NAME = 2;
        private static final int NUMBER = 3;
        private static final int SIGN = 4;
        private static final int NO_TOKEN = 5;

        private static final int CANT_BE_READ = 1;
        private static final int CANT_STAND = 2;
        private static final int TOLD_ALREADY = 3;
        private static final int CANT_BE = 4;

        private static final int LETTERS = 8;
        private static final int DIGITS = 4;
        private static final String SIGNS = ";()<>=+-*/%";
        // Eight letters a word; a word's number is its place here.
        private static final String WORDS = "member  spare   key     slow    copy    loss    draw    from    to      write   under   back    tick    or      and     not     ";
        private static final int MEMBER = 0;
        private static final int SPARE = 1;
        private static final int KEY = 2;
        private static final int SLOW = 3;
        private static final int COPY = 4;
        private static final int LOSS = 5;
        private static final int DRAW = 6;
        private static final int FROM = 7;
        private static final int TICK = 12;
        private static final int OR = 13;
        private static final int AND = 14;
        private static final int NOT = 15;

        private final byte[] text;
        private int length;
        private int at;
        private Plan plan;
        // The token that is looked at: its sort, its first byte, its number (or word, or sign), its letters.
        private int kind;
        private int start;
        private int number;
        private long name;
        // The sorts of lines that have come, as bits of their first words.
        private int told;
        int faultKind;
        int faultPlace = NONE;

        Reader(byte[] text, Plan plan) {
            this.text = text;
            this.plan = plan;
        }

        boolean understands(int bytes, Plan into) {
            length = Math.min(bytes, text.length);
            at = 0;
            plan = into;
            plan.clear();
            told = 0;
            faultKind = 0;
            faultPlace = NONE;
            advance();
            for (int lines = 0; lines <= length && isGood() && kind != END; lines++) {
                readLine();
            }
            return isGood();
        }

        private boolean isGood() {
            return faultKind == 0;
        }

        private void refuse(int fault) {
            if (isGood()) {
                faultKind = kind == NO_TOKEN ? CANT_BE_READ : fault;
                faultPlace = start;
            }
        }

        private void readLine() {
            int word = kind == WORD ? number : NONE;
            if (word < MEMBER || word > DRAW || isOneTooMany(word)) {
                refuse(CANT_STAND);
                return;
            }
            told |= 1 << word;
            advance();
            if (word == SLOW) {
                readEither(0);
            } else if (word <= KEY) {
                readName(word);
            } else {
                readSetting(word);
            }
            if (isGood() && !isSign(';')) {
                refuse(CANT_STAND);
            }
            if (isGood()) {
                advance();
            }
        }

        private boolean isOneTooMany(int word) {
            switch (word) {
                case MEMBER:
                    return plan.nodeCount >= MOST_NODES || plan.memberCount >= MOST_MEMBERS;
                case SPARE:
                    return plan.nodeCount >= MOST_NODES;
                case KEY:
                    return plan.keyCount >= MOST_KEYS;
                default:
                    return (told >> word & 1) == 1;
            }
        }

        private void readName(int word) {
            if (kind != NAME) {
                refuse(CANT_STAND);
                return;
            }
            boolean ofKey = word == KEY;
            if (isTold(ofKey ? plan.keyNames : plan.nodeNames, ofKey ? plan.keyCount : plan.nodeCount)) {
                refuse(TOLD_ALREADY);
                return;
            }
            if (ofKey) {
                plan.keyNames[plan.keyCount] = name;
                plan.keyCount++;
            } else {
                if (word == MEMBER) {
                    plan.members[plan.memberCount] = plan.nodeCount;
                    plan.memberCount++;
                }
                plan.nodeNames[plan.nodeCount] = name;
                plan.nodeCount++;
            }
            advance();
        }

        private boolean isTold(long[] names, int count) {
            for (int i = 0; i < count && i < names.length; i++) {
                if (names[i] == name) {
                    return true;
                }
            }
            return false;
        }

        private void readSetting(int word) {
            if (kind != NUMBER) {
                refuse(CANT_STAND);
            } else if (word == COPY) {
                plan.copy = number;
                checkNumber(1, 9);
            } else if (word == LOSS) {
                plan.loss = number;
                checkNumber(0, 100);
            } else {
                plan.draw = number;
                checkNumber(0, 999);
            }
        }

        private void checkNumber(int least, int most) {
            if (number < least || number > most) {
                refuse(CANT_BE);
            } else {
                advance();
            }
        }

        // Within says how many ( e ) and nots stand around; from here on the methods call one another.
        private void readEither(int within) {
            readBoth(within);
            for (int i = 0; i < MOST_UNITS && isGood() && isWord(OR); i++) {
                advance();
                readBoth(within);
                plan.slow.add(Formula.OR);
            }
        }

        private void readBoth(int within) {
            readOne(within);
            for (int i = 0; i < MOST_UNITS && isGood() && isWord(AND); i++) {
                advance();
                readOne(within);
                plan.slow.add(Formula.AND);
            }
        }

        private void readOne(int within) {
            if (isWord(NOT)) {
                readNot(within);
                return;
            }
            readSum(within);
            int step = isSign('<') ? Formula.LESS : isSign('>') ? Formula.MORE : isSign('=') ? Formula.LIKE : 0;
            if (isGood() && step != 0) {
                advance();
                readSum(within);
                plan.slow.add(step);
            }
        }

        private void readNot(int within) {
            if (within > MOST_WITHIN) {
                refuse(CANT_STAND);
                return;
            }
            advance();
            readOne(within + 1);
            plan.slow.add(Formula.NOT);
        }

        private void readSum(int within) {
            readTerm(within);
            for (int i = 0; i < MOST_UNITS && isGood() && (isSign('+') || isSign('-')); i++) {
                int step = isSign('+') ? Formula.PLUS : Formula.MINUS;
                advance();
                readTerm(within);
                plan.slow.add(step);
            }
        }

        private void readTerm(int within) {
            readUnit(within);
            for (int i = 0; i < MOST_UNITS && isGood() && (isSign('*') || isSign('/') || isSign('%')); i++) {
                int step = isSign('*') ? Formula.TIMES : isSign('/') ? Formula.BY : Formula.REST;
                advance();
                readUnit(within);
                plan.slow.add(step);
            }
        }

        private void readUnit(int within) {
            boolean isFact = kind == WORD && number >= FROM && number <= TICK;
            if (!isFact && kind != NUMBER && !isSign('(') || plan.units >= MOST_UNITS) {
                refuse(CANT_STAND);
                return;
            }
            plan.units++;
            if (isSign('(')) {
                readWithin(within);
                return;
            }
            plan.slow.add(isFact ? Formula.FIRST_FACT - (number - FROM) : number);
            advance();
        }

        private void readWithin(int within) {
            if (within > MOST_WITHIN) {
                refuse(CANT_STAND);
                return;
            }
            advance();
            readEither(within + 1);
            if (isGood() && !isSign(')')) {
                refuse(CANT_STAND);
            }
            if (isGood()) {
                advance();
            }
        }

        private boolean isWord(int word) {
            return kind == WORD && number == word;
        }

        private boolean isSign(char sign) {
            return kind == SIGN && number == sign;
        }

        private int byteAt(int place) {
            return place >= 0 && place < length ? text[place] & 255 : NONE;
        }

        private boolean isLetter(int place) {
            return byteAt(place) >= 'a' && byteAt(place) <= 'z';
        }

        private boolean isDigit(int place) {
            return byteAt(place) >= '0' && byteAt(place) <= '9';
        }

        private void advance() {
            while (at < length && (byteAt(at) == 32 || byteAt(at) == 10)) {
                at++;
            }
            start = at;
            if (at >= length) {
                kind = END;
            } else if (isLetter(at)) {
                readLetters();
            } else if (isDigit(at)) {
                readDigits();
            } else {
                number = byteAt(at);
                kind = SIGNS.indexOf((char) number) >= 0 ? SIGN : NO_TOKEN;
                at++;
            }
        }

        private void readLetters() {
            name = 0;
            for (; at < length && isLetter(at); at++) {
                name = name * 32 + (byteAt(at) - 'a' + 1);
            }
            if (at - start > LETTERS) {
                kind = NO_TOKEN;
                return;
            }
            kind = NAME;
            for (int word = MEMBER; word <= NOT; word++) {
                if (isSpelt(word)) {
                    kind = WORD;
                    number = word;
                }
            }
        }

        private boolean isSpelt(int word) {
            for (int i = 0; i < LETTERS; i++) {
                int letter = start + i < at ? byteAt(start + i) : ' ';
                if (WORDS.charAt(word * LETTERS + i) != letter) {
                    return false;
                }
            }
            return true;
        }

        private void readDigits() {
            number = 0;
            for (; at < length && isDigit(at); at++) {
                number = number * 10 + (byteAt(at) - '0');
            }
            kind = at - start > DIGITS || isLetter(at) ? NO_TOKEN : NUMBER;
        }
    }

    /**
     * A chain at one time. Messages come in order and none is lost but with a member, so those under
     * way behind a member are just the writes between what it and the next one have (down), and
     * between what is clean to it and to the next one (up): only when each is due must be kept.
     */
    private static final class State {
        private static final int WIDTH = MOST_WRITES + 1;

        final int[] row = new int[MOST_MEMBERS];
        final int[] has = new int[MOST_NODES];
        final int[] clean = new int[MOST_NODES];
        // By the node that is nearer to the head, and by the write.
        final int[] downDue = new int[MOST_NODES * WIDTH];
        final int[] upDue = new int[MOST_NODES * WIDTH];
        final int[] keys = new int[WIDTH];
        final int[] values = new int[WIDTH];
        int size;
        int copier = NONE;
        int copyLeft;
        int tick;
        int seed;
        int dropped;

        void startAs(Plan plan) {
            size = plan.memberCount;
            for (int place = 0; place < size; place++) {
                row[place] = plan.members[place];
            }
            for (int node = 0; node < MOST_NODES; node++) {
                has[node] = 0;
                clean[node] = 0;
            }
            copier = NONE;
            copyLeft = 0;
            tick = 0;
            seed = plan.draw;
            dropped = 0;
        }

        void copyFrom(State other) {
            System.arraycopy(other.row, 0, row, 0, row.length);
            System.arraycopy(other.has, 0, has, 0, has.length);
            System.arraycopy(other.clean, 0, clean, 0, clean.length);
            System.arraycopy(other.downDue, 0, downDue, 0, downDue.length);
            System.arraycopy(other.upDue, 0, upDue, 0, upDue.length);
            System.arraycopy(other.keys, 0, keys, 0, keys.length);
            System.arraycopy(other.values, 0, values, 0, values.length);
            size = other.size;
            copier = other.copier;
            copyLeft = other.copyLeft;
            tick = other.tick;
            seed = other.seed;
            dropped = other.dropped;
        }

        static int dueAt(int node, int write) {
            return node * WIDTH + write;
        }

        int placeOf(int node) {
            for (int place = 0; place < size; place++) {
                if (row[place] == node) {
                    return place;
                }
            }
            return NONE;
        }

        int memberBits() {
            int bits = 0;
            for (int place = 0; place < size; place++) {
                bits |= 1 << row[place];
            }
            return bits;
        }

        int headHas() {
            return size == 0 ? 0 : has[row[0]];
        }

        int headClean() {
            return size == 0 ? 0 : clean[row[0]];
        }

        int underWay(int place, int way) {
            if (place < 0 || place + 1 >= size) {
                return 0;
            }
            int upper = row[place];
            int lower = row[place + 1];
            return way == 0 ? has[upper] - has[lower] : clean[lower] - clean[upper];
        }

        int allUnderWay() {
            int sum = 0;
            for (int place = 0; place < size - 1; place++) {
                sum += underWay(place, 0) + underWay(place, 1);
            }
            return sum;
        }

        // Only where a message is under way.
        int ticksTillNext(int place, int way) {
            int upper = row[place];
            int lower = row[place + 1];
            int due = way == 0 ? downDue[dueAt(upper, has[lower] + 1)] : upDue[dueAt(upper, clean[upper] + 1)];
            return due - tick;
        }

        int whoReaches(int[] upTo, int write) {
            int bits = 0;
            for (int place = 0; place < size; place++) {
                if (upTo[row[place]] >= write) {
                    bits |= 1 << row[place];
                }
            }
            return bits;
        }

        int latestUpTo(int key, int most) {
            for (int write = Math.min(most, MOST_WRITES); write > 0; write--) {
                if (keys[write] == key) {
                    return write;
                }
            }
            return 0;
        }

        int valueUpTo(int key, int most) {
            int write = latestUpTo(key, most);
            return write == 0 ? NONE : values[write];
        }

        int dirtyOf(int node, int key) {
            int count = 0;
            for (int write = clean[node] + 1; write <= has[node]; write++) {
                if (keys[write] == key) {
                    count++;
                }
            }
            return count;
        }

        int versionsOf(int node, int key) {
            return (latestUpTo(key, clean[node]) > 0 ? 1 : 0) + dirtyOf(node, key);
        }

        int droppedWithout(int nodes) {
            int most = 0;
            for (int place = 0; place < size; place++) {
                if ((nodes >> row[place] & 1) == 0) {
                    most = Math.max(most, has[row[place]]);
                }
            }
            return headHas() - most;
        }
    }

    /** What befalls a chain: writes, ticks, draws, losses. */
    private static final class Rules {
        private Plan plan;
        // Every delay, while it is not 0.
        int pace;

        Rules(Plan plan) {
            this.plan = plan;
        }

        void follow(Plan told) {
            plan = told;
        }

        int give(State state, int key, int value) {
            int head = state.row[0];
            int number = state.has[head] + 1;
            if (state.size == 0 || number > MOST_WRITES) {
                return NONE;
            }
            state.keys[number] = key;
            state.values[number] = value;
            take(state, 0, number);
            return number;
        }

        private void take(State state, int place, int write) {
            int node = state.row[place];
            state.has[node] = write;
            if (place < state.size - 1) {
                sendDown(state, place, write);
                return;
            }
            state.clean[node] = write;
            if (place > 0) {
                sendUp(state, place - 1, write);
            }
        }

        // From a place to the next one.
        private void sendDown(State state, int place, int write) {
            int from = state.row[place];
            int to = state.row[place + 1];
            int ahead = write - 1 - state.has[to];
            int wait = pace > 0 ? pace : plan.slow.delay(from, to, write, ahead, 0, state.tick);
            int due = state.tick + wait;
            if (ahead > 0) {
                due = Math.max(due, state.downDue[State.dueAt(from, write - 1)]);
            }
            state.downDue[State.dueAt(from, write)] = due;
        }

        // To a place from the next one.
        private void sendUp(State state, int place, int write) {
            int from = state.row[place + 1];
            int to = state.row[place];
            int ahead = write - 1 - state.clean[to];
            int wait = pace > 0 ? pace : plan.slow.delay(from, to, write, ahead, 1, state.tick);
            int due = state.tick + wait;
            if (ahead > 0) {
                due = Math.max(due, state.upDue[State.dueAt(to, write - 1)]);
            }
            state.upDue[State.dueAt(to, write)] = due;
        }

        int step(State state) {
            state.tick++;
            int came = 0;
            for (int place = 0; place < state.size - 1; place++) {
                came += bringDown(state, place);
            }
            for (int place = state.size - 2; place >= 0; place--) {
                came += bringUp(state, place);
            }
            goOnCopying(state);
            return came;
        }

        private int bringDown(State state, int place) {
            int upper = state.row[place];
            int most = state.has[upper];
            int first = state.has[state.row[place + 1]] + 1;
            int write = first;
            while (write <= most && state.downDue[State.dueAt(upper, write)] <= state.tick) {
                take(state, place + 1, write);
                write++;
            }
            return write - first;
        }

        private int bringUp(State state, int place) {
            int upper = state.row[place];
            int most = state.clean[state.row[place + 1]];
            int first = state.clean[upper] + 1;
            int write = first;
            while (write <= most && state.upDue[State.dueAt(upper, write)] <= state.tick) {
                state.clean[upper] = write;
                if (place > 0) {
                    sendUp(state, place - 1, write);
                }
                write++;
            }
            return write - first;
        }

        private void goOnCopying(State state) {
            if (state.copier == NONE) {
                return;
            }
            state.copyLeft--;
            if (state.copyLeft > 0 || state.size == 0 || state.size >= MOST_MEMBERS) {
                return;
            }
            int had = state.has[state.row[state.size - 1]];
            state.row[state.size] = state.copier;
            state.size++;
            state.has[state.copier] = had;
            state.clean[state.copier] = had;
            state.copier = NONE;
            state.copyLeft = 0;
        }

        void draw(State state) {
            state.seed = (state.seed * 137 + 71) % 1000;
            if (state.seed % 100 < plan.loss && state.size >= 2) {
                takeOut(state, state.row[state.seed % state.size]);
            }
        }

        // How many writes are dropped by it.
        int takeOut(State state, int node) {
            int place = state.placeOf(node);
            if (place < 0 || state.size < 2) {
                return 0;
            }
            int had = state.has[node];
            for (int i = place; i < state.size - 1; i++) {
                state.row[i] = state.row[i + 1];
            }
            state.size--;
            state.has[node] = 0;
            state.clean[node] = 0;
            if (place == 0) {
                int dropped = had - state.headHas();
                state.dropped += dropped;
                return dropped;
            }
            if (place == state.size) {
                mendTail(state);
            } else {
                mendGap(state, place - 1);
            }
            return 0;
        }

        private void mendTail(State state) {
            int place = state.size - 1;
            int tail = state.row[place];
            for (int write = state.clean[tail] + 1; write <= state.has[tail]; write++) {
                state.clean[tail] = write;
                if (place > 0) {
                    sendUp(state, place - 1, write);
                }
            }
            if (state.copier != NONE) {
                state.copyLeft = plan.copy;
            }
        }

        private void mendGap(State state, int place) {
            int upper = state.row[place];
            int lower = state.row[place + 1];
            for (int write = state.has[lower] + 1; write <= state.has[upper]; write++) {
                sendDown(state, place, write);
            }
            for (int write = state.clean[upper] + 1; write <= state.clean[lower]; write++) {
                sendUp(state, place, write);
            }
        }
    }

    /** What was seen of the chain as it was told, and from when to when it counts. */
    private static final class Sightings {
        private final int[] ticks = new int[MOST_SEEN];
        private final boolean[] is = new boolean[MOST_SEEN];
        private final int[] toldAt = new int[MOST_SEEN];
        private final int[] untoldAt = new int[MOST_SEEN];
        int count;

        void forget() {
            count = 0;
        }

        int tell(int behind, boolean answered, int time) {
            if (count >= MOST_SEEN) {
                return NONE;
            }
            ticks[count] = behind;
            is[count] = answered;
            toldAt[count] = time;
            untoldAt[count] = NONE;
            count++;
            return count - 1;
        }

        boolean takeBack(int number, int time) {
            if (number < 0 || number >= count || untoldAt[number] != NONE) {
                return false;
            }
            untoldAt[number] = time;
            return true;
        }

        // Whether a chain answered behind so many ticks is one by which all is so that counts at k.
        boolean allow(int answeredBehind, int k) {
            for (int i = 0; i < count; i++) {
                if (counts(i, k) && is[i] != (answeredBehind <= ticks[i])) {
                    return false;
                }
            }
            return true;
        }

        private boolean counts(int i, int k) {
            boolean isUntold = untoldAt[i] != NONE && untoldAt[i] <= k;
            return toldAt[i] <= k && !isUntold;
        }
    }
}
