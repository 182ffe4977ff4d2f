import java.util.Arrays;

/** A net of spots, wires and works, minute by minute: ../shared/DOC.md says what it must do. */
public final class SaggingNet {
    public static final int NONE = -1;

    private static final int NO_ORDER = -2;
    private static final int NOT_SO_MANY = -2;
    private static final int NO_SET = -2;
    private static final long NO_FLOW = -1000000000L;

    private static final int LANDS = 4;
    private static final int SPOTS = 8;
    private static final int WIRES = 14;
    private static final int WORKS = 9;
    private static final int LAST_MINUTE = 499;
    private static final int LONGEST_PLAY = 30;
    private static final int CUT_WIRES = 8;
    private static final int FIRST_COST_PLACE = 20;

    private static final int ON = 0;
    private static final int OFF = 1;
    private static final int TRIPPED = 2;
    private static final int DOWN = 3;

    private static final int EVENT_SHED = 0;
    private static final int EVENT_DOWN = 1;
    private static final int EVENT_TRIPPED = 2;
    private static final int EVENT_WORKS_OFF = 3;

    private final Net net = new Net();
    private final State now = new State();
    private final State[] past = new State[LAST_MINUTE];
    private final int[] borne = new int[LAST_MINUTE];
    private final Standing stands = new Standing();
    private final Bearing bearing = new Bearing();
    private final Play play = new Play();
    private final Events events = new Events();
    private final Screens screens = new Screens();
    private final Clocks clocks = new Clocks();
    private final Beginning beginning = new Beginning();
    private final Tape tape = new Tape();
    private final int[] treed = new int[CUT_WIRES];
    private Text draft = new Text();

    public SaggingNet() {
    }

    public int spot(int land, int load, int rank) {
        boolean fits = now.minute == 0 && net.spots < SPOTS
                && isLand(land) && within(load, 0, 2000) && within(rank, 0, 9);
        if (!fits) {
            return NONE;
        }
        now.loads[net.spots] = load;
        return net.addSpot(land, rank);
    }

    public int wire(int a, int b, int ease, int limit, int room) {
        boolean fits = now.minute == 0 && net.wires < WIRES
                && net.hasSpot(a) && net.hasSpot(b) && a != b
                && within(ease, 1, 3) && within(limit, 1, 5000) && within(room, 1, 100000);
        return fits ? net.addWire(a, b, ease, limit, room) : NONE;
    }

    public int works(int spot, int most, int price) {
        boolean fits = now.minute == 0 && net.works < WORKS
                && net.hasSpot(spot) && within(most, 1, 5000) && within(price, 0, 99);
        if (!fits) {
            return NONE;
        }
        now.running |= 1 << net.works;
        return net.addWorks(spot, most, price);
    }

    public boolean tree(int w, int n) {
        if (!net.hasWire(w) || !within(n, 0, 100000)) {
            return false;
        }
        now.tree[w] = n;
        return true;
    }

    public boolean cool(int n) {
        if (!within(n, 0, 1000)) {
            return false;
        }
        net.cooling = n;
        return true;
    }

    public boolean turn(int w, boolean on) {
        if (!net.hasWire(w) || now.is[w] == DOWN || (now.is[w] == ON) == on) {
            return false;
        }
        now.is[w] = on ? ON : OFF;
        return true;
    }

    public boolean run(int k, boolean on) {
        if (!net.hasWorks(k) || now.runs(k) == on) {
            return false;
        }
        now.running ^= 1 << k;
        return true;
    }

    public boolean shed(int s, boolean is) {
        if (!net.hasSpot(s) || now.isDark(s) == is) {
            return false;
        }
        now.dark ^= 1 << s;
        return true;
    }

    public boolean load(int s, int n) {
        if (!net.hasSpot(s) || !within(n, 0, 2000)) {
            return false;
        }
        now.loads[s] = n;
        return true;
    }

    public boolean mend(int w) {
        if (!net.hasWire(w) || now.is[w] != DOWN) {
            return false;
        }
        now.is[w] = OFF;
        return true;
    }

    public int feed(int a, int b, int c, int d, int e) {
        if (!tape.hasRoom()) {
            return NONE;
        }
        tape.append(a);
        tape.append(b);
        tape.append(c);
        tape.append(d);
        tape.append(e);
        return tape.size;
    }

    public int rules(int n) {
        if (!within(n, 1, Text.LONGEST) || n > tape.size) {
            return NONE;
        }
        tape.size = 0;
        int answer = draft.read(tape.bytes, n);
        if (answer > 0) {
            Text before = net.text;
            net.text = draft;
            draft = before;
        }
        return answer;
    }

    public int goes() {
        int minute = now.minute;
        if (!within(minute, 0, LAST_MINUTE - 1)) {
            return NONE;
        }
        State began = new State();
        began.become(now);
        past[minute] = began;
        borne[minute] = bearing.bits(net, began);
        play.begin(began);
        play.step(net);
        screens.takeIn(net, began, play.stands);
        now.become(play.state);
        events.tell(play, minute);
        return play.came;
    }

    public long flow(int w) {
        if (!net.hasWire(w)) {
            return NO_FLOW;
        }
        stands.reckon(net, now);
        return stands.told[w];
    }

    public int wireIs(int w, int what) {
        if (!net.hasWire(w)) {
            return NONE;
        }
        switch (what) {
            case 0: return now.is[w];
            case 1: return now.warmth[w];
            case 2: return now.tree[w];
            case 3: return bearing.oneBit(net, now, w);
            default: return NONE;
        }
    }

    public int worksAre(int k, int what) {
        if (!net.hasWorks(k)) {
            return NONE;
        }
        if (what == 0) {
            return now.runs(k) ? 1 : 0;
        }
        if (what == 1) {
            stands.reckon(net, now);
            return stands.gives[k];
        }
        return NONE;
    }

    public int spotIs(int s, int what) {
        if (!net.hasSpot(s) || !within(what, 0, 4)) {
            return NONE;
        }
        if (what == 0) {
            return now.loads[s];
        }
        if (what == 1) {
            return now.isDark(s) ? 1 : 0;
        }
        stands.reckon(net, now);
        if (what == 2) {
            return stands.dark >> s & 1;
        }
        return what == 3 ? stands.island[s] : stands.reserve[s];
    }

    public int event(int e, int what) {
        if (!events.has(e)) {
            return NONE;
        }
        switch (what) {
            case 0: return events.kinds[e];
            case 1: return events.numbers[e];
            case 2: return events.minutes[e];
            case 3: return firstThatLedTo(e);
            default: return NONE;
        }
    }

    public int bear(int m) {
        return hasGoneBy(m) ? borne[m] : NONE;
    }

    public int firstBorne() {
        for (int m = 0; m < now.minute && m < LAST_MINUTE; m++) {
            if (borne[m] != 0) {
                return m;
            }
        }
        return NONE;
    }

    public boolean stop(int k, boolean is) {
        if (!isLand(k) || screens.stopped[k] == is) {
            return false;
        }
        screens.stopped[k] = is;
        screens.signs[k] = NONE;
        return true;
    }

    public long shown(int k, int w, int what) {
        if (!isLand(k) || !net.hasWire(w) || !screens.shows(net, k, w)) {
            return NONE;
        }
        switch (what) {
            case 0: return screens.on[k] >> w & 1;
            case 1: return screens.flows[k][w];
            case 2: return screens.minutes[k];
            default: return NONE;
        }
    }

    public int sign(int k) {
        return isLand(k) ? screens.signs[k] : NONE;
    }

    public int held(int m, int set, int minutes) {
        if (!isSet(set) || !within(minutes, 1, LONGEST_PLAY)) {
            return NONE;
        }
        State from = stateAt(m);
        if (from == null) {
            return NONE;
        }
        return holds(from, set, minutes) ? 1 : 0;
    }

    public int last(int set, int minutes) {
        if (!isSet(set) || !within(minutes, 1, LONGEST_PLAY)) {
            return NONE;
        }
        for (int m = now.minute; m >= 0; m--) {
            State from = stateAt(m);
            if (from != null && holds(from, set, minutes)) {
                return m;
            }
        }
        return NONE;
    }

    public int least(int m, int minutes) {
        State from = stateAt(m);
        if (from == null || !within(minutes, 1, LONGEST_PLAY)) {
            return NONE;
        }
        return leastSet(from, minutes);
    }

    public boolean clock(int k, int low, int high) {
        if (!isLand(k) || low > high || !within(low, -100, 100) || !within(high, -100, 100)) {
            return false;
        }
        clocks.low[k] = low;
        clocks.high[k] = high;
        return true;
    }

    public int row(int k, int time) {
        if (!isLand(k) || !within(time, 0, 9999) || clocks.rows >= Clocks.MOST_ROWS) {
            return NONE;
        }
        return clocks.addRow(k, time);
    }

    public boolean before(int x, int y) {
        if (!clocks.hasRow(x) || !clocks.hasRow(y) || x == y || clocks.told >= Clocks.MOST_TOLD) {
            return false;
        }
        clocks.addTold(x, y);
        return true;
    }

    public int order(int x, int y) {
        if (!clocks.hasRow(x) || !clocks.hasRow(y)) {
            return NONE;
        }
        return clocks.compare(x, y);
    }

    public boolean begins(int k, boolean alone, int minutes) {
        if (!net.hasWorks(k) || !within(minutes, 1, 100)) {
            return false;
        }
        beginning.alone[k] = alone;
        beginning.minutes[k] = minutes;
        return true;
    }

    public long again(int what) {
        if (net.works == 0) {
            return NO_ORDER;
        }
        // An ORDER is one of all WORKS: its places are known, whether or not one can be.
        if (what != NONE && !net.hasWorks(what)) {
            return NONE;
        }
        if (!beginning.find(net, now)) {
            return NO_ORDER;
        }
        return what == NONE ? beginning.least[0] : beginning.best[what];
    }

    public boolean cost(int w, int n) {
        if (!net.hasWire(w) || !within(n, 1, 1000)) {
            return false;
        }
        net.cost[w] = n;
        return true;
    }

    public int cut(int money, int minutes, int what) {
        if (!within(money, 0, 10000) || !within(minutes, 1, LONGEST_PLAY) || !within(what, 0, 1)) {
            return NONE;
        }
        return bestCut(money, minutes, what);
    }

    public int check(int n) {
        if (!within(n, 0, Tape.LONGEST) || n * Tape.THREE_NUMBERS > tape.size) {
            return NOT_SO_MANY;
        }
        tape.size = 0;
        for (int place = 0; place < 3 * n; place++) {
            if (!isSoAt(place)) {
                return place;
            }
        }
        return n < net.wires ? 3 * n : NONE;
    }

    public int count(int what) {
        switch (what) {
            case 0: return now.minute;
            case 1: return net.spots;
            case 2: return net.wires;
            case 3: return net.works;
            case 4: return events.size;
            case 5: return net.text.clauses;
            case 6: return clocks.rows;
            case 7: return clocks.told;
            case 8: return tape.size;
            case 9: return net.cooling;
            case 10: return now.loadsOf(now.dark);
            default: return costAt(what);
        }
    }

    private static boolean within(int n, int low, int high) {
        return low <= n && n <= high;
    }

    private static boolean isLand(int k) {
        return within(k, 0, LANDS - 1);
    }

    private boolean isSet(int set) {
        return set >= 0 && set >> net.spots == 0;
    }

    private boolean hasGoneBy(int m) {
        return m >= 0 && m < now.minute && m < LAST_MINUTE;
    }

    private State stateAt(int m) {
        if (m == now.minute) {
            return now;
        }
        return hasGoneBy(m) ? past[m] : null;
    }

    private int costAt(int what) {
        if (what < FIRST_COST_PLACE || what - FIRST_COST_PLACE >= net.wires) {
            return NONE;
        }
        return net.cost[what - FIRST_COST_PLACE];
    }

    private boolean isSoAt(int place) {
        int w = place / 3;
        if (!net.hasWire(w)) {
            return false;
        }
        int told = tape.numberAt(place);
        switch (place % 3) {
            case 0: return told == w;
            case 1: return told == now.is[w];
            default: return told == now.warmth[w];
        }
    }

    private int firstThatLedTo(int y) {
        State began = stateAt(events.minutes[y]);
        if (began == null) {
            return NONE;
        }
        for (int x = 0; x < y; x++) {
            boolean justBefore = events.minutes[x] == events.minutes[y] - 1;
            if (justBefore && events.kinds[x] != EVENT_SHED && !comesWithout(x, y, began)) {
                return x;
            }
        }
        return NONE;
    }

    /** Whether an EVENT like y had come, had what went with x still been ON. */
    private boolean comesWithout(int x, int y, State began) {
        play.begin(began);
        if (events.kinds[x] == EVENT_WORKS_OFF) {
            play.state.running |= 1 << events.numbers[x];
        } else {
            play.state.is[events.numbers[x]] = ON;
        }
        play.step(net);
        return play.hasCome(events.kinds[y], events.numbers[y]);
    }

    private boolean holds(State from, int set, int minutes) {
        play.begin(from);
        play.state.dark |= set;
        for (int i = 0; i < minutes; i++) {
            play.step(net);
            if (play.came > 0) {
                return false;
            }
        }
        return true;
    }

    private int leastSet(State from, int minutes) {
        int least = NO_SET;
        int leastLoads = 0;
        int leastSize = 0;
        for (int set = 0; set < 1 << net.spots; set++) {
            int loads = from.loadsOf(set & ~from.dark);
            int size = Integer.bitCount(set);
            boolean less = least == NO_SET || loads < leastLoads
                    || loads == leastLoads && size < leastSize;
            if (less && holds(from, set, minutes)) {
                least = set;
                leastLoads = loads;
                leastSize = size;
            }
        }
        return least;
    }

    private int bestCut(int money, int minutes, int what) {
        int many = findTreed();
        int darkAlready = now.loadsOf(now.dark);
        int best = 0;
        int bestLoads = NONE;
        int bestCost = 0;
        for (int some = 0; some < 1 << many; some++) {
            int cost = costOf(some, many);
            // Nothing is lit while it is PLAYED: none can be better but one of less costs.
            boolean beaten = bestLoads == darkAlready && cost >= bestCost;
            if (cost > money || beaten) {
                continue;
            }
            int loads = darkAfterCutting(some, many, minutes);
            if (bestLoads == NONE || loads < bestLoads || loads == bestLoads && cost < bestCost) {
                best = some;
                bestLoads = loads;
                bestCost = cost;
            }
        }
        return what == 0 ? wiresOf(best, many) : bestLoads;
    }

    private int findTreed() {
        int many = 0;
        for (int w = 0; w < net.wires && many < CUT_WIRES; w++) {
            if (now.is[w] == ON && now.tree[w] > 0) {
                treed[many] = w;
                many++;
            }
        }
        return many;
    }

    private int costOf(int some, int many) {
        int sum = 0;
        for (int i = 0; i < many; i++) {
            if ((some >> i & 1) == 1) {
                sum += net.cost[treed[i]];
            }
        }
        return sum;
    }

    private int wiresOf(int some, int many) {
        int bits = 0;
        for (int i = 0; i < many; i++) {
            if ((some >> i & 1) == 1) {
                bits |= 1 << treed[i];
            }
        }
        return bits;
    }

    private int darkAfterCutting(int some, int many, int minutes) {
        play.begin(now);
        for (int i = 0; i < many; i++) {
            if ((some >> i & 1) == 1) {
                play.state.tree[treed[i]] = 0;
            }
        }
        for (int i = 0; i < minutes; i++) {
            play.step(net);
        }
        return play.state.loadsOf(play.state.dark);
    }

    /** What is told of the net, and what holds for every MINUTE that is PLAYED. */
    private static final class Net {
        int spots;
        int wires;
        int works;
        int cooling = 100;
        Text text = new Text();
        final int[] land = new int[SPOTS];
        final int[] rank = new int[SPOTS];
        // From the highest RANK on, of like ones the lowest first: lit forwards, SHED backwards.
        final int[] byRank = new int[SPOTS];
        final int[] from = new int[WIRES];
        final int[] to = new int[WIRES];
        final int[] ease = new int[WIRES];
        final int[] limit = new int[WIRES];
        final int[] room = new int[WIRES];
        final int[] cost = new int[WIRES];
        final int[] at = new int[WORKS];
        final int[] most = new int[WORKS];
        final int[] price = new int[WORKS];
        final int[] byPrice = new int[WORKS];

        boolean hasSpot(int s) {
            return s >= 0 && s < spots;
        }

        boolean hasWire(int w) {
            return w >= 0 && w < wires;
        }

        boolean hasWorks(int k) {
            return k >= 0 && k < works;
        }

        int addSpot(int itsLand, int itsRank) {
            int s = spots;
            int place = s;
            for (; place > 0 && rank[byRank[place - 1]] < itsRank; place--) {
                byRank[place] = byRank[place - 1];
            }
            byRank[place] = s;
            land[s] = itsLand;
            rank[s] = itsRank;
            spots++;
            return s;
        }

        int addWire(int a, int b, int itsEase, int itsLimit, int itsRoom) {
            int w = wires;
            from[w] = a;
            to[w] = b;
            ease[w] = itsEase;
            limit[w] = itsLimit;
            room[w] = itsRoom;
            cost[w] = 1;
            wires++;
            return w;
        }

        int addWorks(int spot, int itsMost, int itsPrice) {
            int k = works;
            int place = k;
            for (; place > 0 && price[byPrice[place - 1]] > itsPrice; place--) {
                byPrice[place] = byPrice[place - 1];
            }
            byPrice[place] = k;
            at[k] = spot;
            most[k] = itsMost;
            price[k] = itsPrice;
            works++;
            return k;
        }

        boolean touches(int w, int k) {
            return land[from[w]] == k || land[to[w]] == k;
        }

        /** For each SPOT the lowest one that it hangs together with by WIRES that are ON (or not DOWN). */
        void hangTogether(State s, boolean unlessDown, int[] lowest) {
            for (int i = 0; i < spots; i++) {
                lowest[i] = i;
            }
            boolean moved = true;
            // Each pass brings the lowest number at least one WIRE further.
            for (int pass = 0; pass < spots && moved; pass++) {
                moved = false;
                for (int w = 0; w < wires; w++) {
                    boolean joins = s.is[w] == ON || unlessDown && s.is[w] != DOWN;
                    if (joins && lowest[from[w]] != lowest[to[w]]) {
                        int low = Math.min(lowest[from[w]], lowest[to[w]]);
                        lowest[from[w]] = low;
                        lowest[to[w]] = low;
                        moved = true;
                    }
                }
            }
        }
    }

    /** What changes from MINUTE to MINUTE, or by hand. */
    private static final class State {
        int minute;
        int dark;
        int running;
        int went;
        final int[] loads = new int[SPOTS];
        final int[] is = new int[WIRES];
        final int[] warmth = new int[WIRES];
        final int[] tree = new int[WIRES];

        void become(State other) {
            minute = other.minute;
            dark = other.dark;
            running = other.running;
            went = other.went;
            System.arraycopy(other.loads, 0, loads, 0, SPOTS);
            System.arraycopy(other.is, 0, is, 0, WIRES);
            System.arraycopy(other.warmth, 0, warmth, 0, WIRES);
            System.arraycopy(other.tree, 0, tree, 0, WIRES);
        }

        boolean isDark(int s) {
            return (dark >> s & 1) == 1;
        }

        boolean runs(int k) {
            return (running >> k & 1) == 1;
        }

        int loadsOf(int set) {
            int sum = 0;
            for (int s = 0; s < SPOTS; s++) {
                if ((set >> s & 1) == 1) {
                    sum += loads[s];
                }
            }
            return sum;
        }
    }

    /** AS IT STANDS, with FLOWS; it changes nothing of the State that it looks at. */
    private static final class Standing {
        int dark;
        int newly;
        boolean over;
        final int[] newlyDark = new int[SPOTS];
        final int[] island = new int[SPOTS];
        final int[] reserve = new int[SPOTS];
        final int[] gives = new int[WORKS];
        final long[] told = new long[WIRES];
        private final int[] push = new int[SPOTS];
        private final int[] place = new int[SPOTS];
        private final long[] height = new long[SPOTS];
        private final long[][] rows = new long[SPOTS][SPOTS];

        void reckon(Net net, State s) {
            dark = s.dark;
            newly = 0;
            over = false;
            Arrays.fill(told, 0L);
            net.hangTogether(s, false, island);
            for (int root = 0; root < net.spots; root++) {
                if (island[root] == root) {
                    settle(net, s, root);
                    spread(net, s, root);
                }
            }
        }

        private void settle(Net net, State s, int root) {
            int most = 0;
            for (int k = 0; k < net.works; k++) {
                if (s.runs(k) && island[net.at[k]] == root) {
                    most += net.most[k];
                }
            }
            int loads = 0;
            for (int i = 0; i < net.spots; i++) {
                if (island[i] == root && (dark >> i & 1) == 0) {
                    loads += s.loads[i];
                }
            }
            for (int i = net.spots - 1; i >= 0 && most < loads; i--) {
                int spot = net.byRank[i];
                if (island[spot] == root && (dark >> spot & 1) == 0 && s.loads[spot] > 0) {
                    dark |= 1 << spot;
                    newlyDark[newly] = spot;
                    newly++;
                    loads -= s.loads[spot];
                }
            }
            balance(net, s, root, most, loads);
        }

        private void balance(Net net, State s, int root, int most, int loads) {
            for (int i = 0; i < net.spots; i++) {
                if (island[i] == root) {
                    reserve[i] = most - loads;
                    push[i] = (dark >> i & 1) == 1 ? 0 : -s.loads[i];
                }
            }
            int rest = loads;
            for (int i = 0; i < net.works; i++) {
                int k = net.byPrice[i];
                if (island[net.at[k]] == root) {
                    gives[k] = s.runs(k) ? Math.min(net.most[k], rest) : 0;
                    push[net.at[k]] += gives[k];
                    rest -= gives[k];
                }
            }
        }

        /** FLOWS of one ISLAND, its root at height 0: the other heights are fractions of one scale. */
        private void spread(Net net, State s, int root) {
            int size = enter(net, s, root);
            long scale = eliminate(size);
            if (scale == 0) {
                return;
            }
            for (int i = 0; i < net.spots; i++) {
                height[i] = i == root || island[i] != root ? 0 : rows[place[i]][size];
            }
            for (int w = 0; w < net.wires; w++) {
                if (s.is[w] == ON && island[net.from[w]] == root) {
                    long flow = net.ease[w] * (height[net.from[w]] - height[net.to[w]]);
                    told[w] = flow * 100 / scale;
                    over |= Math.abs(flow) > net.limit[w] * scale;
                }
            }
        }

        private int enter(Net net, State s, int root) {
            int size = 0;
            for (int i = 0; i < net.spots; i++) {
                if (island[i] == root && i != root) {
                    place[i] = size;
                    size++;
                }
            }
            for (int i = 0; i < net.spots; i++) {
                if (island[i] == root && i != root) {
                    Arrays.fill(rows[place[i]], 0L);
                    rows[place[i]][size] = push[i];
                }
            }
            for (int w = 0; w < net.wires; w++) {
                if (s.is[w] == ON && island[net.from[w]] == root) {
                    join(net.from[w], net.to[w], net.ease[w], root);
                }
            }
            return size;
        }

        private void join(int a, int b, int ease, int root) {
            if (a != root) {
                rows[place[a]][place[a]] += ease;
            }
            if (b != root) {
                rows[place[b]][place[b]] += ease;
            }
            if (a != root && b != root) {
                rows[place[a]][place[b]] -= ease;
                rows[place[b]][place[a]] -= ease;
            }
        }

        /**
         * Each row's last number comes to be its height times the answer. Only whole numbers: every
         * division leaves no rest, and as none of them is above some 10^18, 64 bits do. An ISLAND hangs
         * together, so no pivot is 0 and rows need not change places.
         */
        private long eliminate(int size) {
            long before = 1;
            for (int p = 0; p < size; p++) {
                long pivot = rows[p][p];
                if (pivot == 0 || before == 0) {
                    return 0;
                }
                for (int i = 0; i < size; i++) {
                    long factor = rows[i][p];
                    for (int j = p + 1; j <= size && i != p; j++) {
                        rows[i][j] = (pivot * rows[i][j] - factor * rows[p][j]) / before;
                    }
                }
                before = pivot;
            }
            return before;
        }
    }

    /** Which WIRES CAN'T BE BORNE. */
    private static final class Bearing {
        private final State without = new State();
        private final Standing stands = new Standing();

        int bits(Net net, State s) {
            stands.reckon(net, s);
            int dark = stands.dark;
            int bits = 0;
            without.become(s);
            for (int w = 0; w < net.wires; w++) {
                if (s.is[w] == ON && cantBeBorne(net, w, dark)) {
                    bits |= 1 << w;
                }
            }
            return bits;
        }

        int oneBit(Net net, State s, int w) {
            if (s.is[w] != ON) {
                return 0;
            }
            stands.reckon(net, s);
            without.become(s);
            return cantBeBorne(net, w, stands.dark) ? 1 : 0;
        }

        private boolean cantBeBorne(Net net, int w, int dark) {
            without.is[w] = OFF;
            stands.reckon(net, without);
            without.is[w] = ON;
            return stands.over || (stands.dark & ~dark) != 0;
        }
    }

    /** MINUTES that go by, of a State of its own. */
    private static final class Play {
        final State state = new State();
        final Standing stands = new Standing();
        int came;
        private int downs;
        private int trips;
        private int stops;
        private boolean moved;
        private final long[] letters = new long[Text.LETTERS];

        void begin(State from) {
            state.become(from);
            moved = true;
        }

        void step(Net net) {
            // When nothing came in the MINUTE before, all stands as it stood.
            if (moved) {
                stands.reckon(net, state);
            }
            state.dark = stands.dark;
            downs = 0;
            trips = 0;
            stops = 0;
            warm(net);
            sag(net);
            tellLetters();
            guardWires(net);
            guardWorks(net);
            state.went = Integer.bitCount(downs | trips);
            state.minute++;
            came = stands.newly + state.went + Integer.bitCount(stops);
            moved = came > 0;
        }

        boolean hasCome(int kind, int number) {
            if (kind == EVENT_DOWN) {
                return (downs >> number & 1) == 1;
            }
            if (kind == EVENT_TRIPPED) {
                return (trips >> number & 1) == 1;
            }
            if (kind == EVENT_WORKS_OFF) {
                return (stops >> number & 1) == 1;
            }
            for (int i = 0; i < stands.newly; i++) {
                if (stands.newlyDark[i] == number) {
                    return true;
                }
            }
            return false;
        }

        private void warm(Net net) {
            for (int w = 0; w < net.wires; w++) {
                long more = 0;
                if (state.is[w] == ON && net.limit[w] > 0) {
                    more = Math.abs(stands.told[w]) / net.limit[w];
                }
                long warmth = state.warmth[w] + more - net.cooling;
                state.warmth[w] = (int) Math.max(0L, Math.min(1000000L, warmth));
            }
        }

        private void sag(Net net) {
            for (int w = 0; w < net.wires; w++) {
                boolean touches = state.tree[w] > 0 && state.warmth[w] + state.tree[w] >= net.room[w];
                if (state.is[w] == ON && touches) {
                    state.is[w] = DOWN;
                    downs |= 1 << w;
                }
            }
        }

        private void tellLetters() {
            letters[Text.MINUTE] = state.minute;
            letters[Text.DARK] = state.loadsOf(state.dark);
            letters[Text.WENT] = state.went;
        }

        private void guardWires(Net net) {
            for (int w = 0; w < net.wires; w++) {
                if (state.is[w] != ON) {
                    continue;
                }
                letters[Text.NUMBER] = w;
                letters[Text.LAND] = net.land[net.from[w]];
                letters[Text.RESERVE] = stands.reserve[net.from[w]];
                letters[Text.FLOW] = Math.abs(stands.told[w]);
                letters[Text.LIMIT] = net.limit[w];
                letters[Text.WARMTH] = state.warmth[w];
                if (net.text.holds(false, letters)) {
                    state.is[w] = TRIPPED;
                    trips |= 1 << w;
                }
            }
        }

        private void guardWorks(Net net) {
            for (int k = 0; k < net.works; k++) {
                if (!state.runs(k)) {
                    continue;
                }
                letters[Text.NUMBER] = k;
                letters[Text.LAND] = net.land[net.at[k]];
                letters[Text.RESERVE] = stands.reserve[net.at[k]];
                letters[Text.GIVES] = stands.gives[k];
                letters[Text.MOST] = net.most[k];
                if (net.text.holds(true, letters)) {
                    state.running &= ~(1 << k);
                    stops |= 1 << k;
                }
            }
        }
    }

    /** What came, in the order in which it did. */
    private static final class Events {
        static final int MOST = 400;

        int size;
        final int[] kinds = new int[MOST];
        final int[] numbers = new int[MOST];
        final int[] minutes = new int[MOST];

        boolean has(int e) {
            return e >= 0 && e < size;
        }

        void tell(Play play, int minute) {
            for (int i = 0; i < play.stands.newly; i++) {
                append(EVENT_SHED, play.stands.newlyDark[i], minute);
            }
            tellAll(EVENT_DOWN, play.downs, minute);
            tellAll(EVENT_TRIPPED, play.trips, minute);
            tellAll(EVENT_WORKS_OFF, play.stops, minute);
        }

        private void tellAll(int kind, int bits, int minute) {
            for (int i = 0; i < WIRES; i++) {
                if ((bits >> i & 1) == 1) {
                    append(kind, i, minute);
                }
            }
        }

        private void append(int kind, int number, int minute) {
            if (size < MOST) {
                kinds[size] = kind;
                numbers[size] = number;
                minutes[size] = minute;
                size++;
            }
        }
    }

    /** A TEXT of RULES: read once into steps for a stack, so that asking it needs no reading. */
    private static final class Text {
        static final int LONGEST = 160;
        static final int MINUTE = 0;
        static final int NUMBER = 1;
        static final int LAND = 2;
        static final int RESERVE = 3;
        static final int DARK = 4;
        static final int WENT = 5;
        static final int FLOW = 6;
        static final int LIMIT = 7;
        static final int WARMTH = 8;
        static final int GIVES = 9;
        static final int MOST = 10;
        static final int LETTERS = 11;

        private static final char[] SIGNS = {'m', 'i', 'k', 'r', 'd', 'n', 'f', 'l', 'w', 'g', 'x'};
        private static final int CLAUSES = 12;
        private static final int OPEN = 6;
        private static final int DIGITS = 6;
        private static final int STEPS = 2 * LONGEST;
        private static final int DEEPEST = 32;
        private static final int A_NUMBER = '0';
        private static final int A_LETTER = 'a';
        private static final int MISPLACED = 1;
        private static final int SEVENTH_DIGIT = 2;
        private static final int THIRTEENTH = 4;
        private static final int SEVENTH_OPEN = 5;

        int clauses;
        private int fault;
        private int size;
        private int at;
        private int length;
        private boolean ofWorks;
        private final int[] bytes = new int[LONGEST];
        private final int[] steps = new int[STEPS];
        private final int[] with = new int[STEPS];
        private final int[] ends = new int[CLAUSES];
        private final boolean[] asksWorks = new boolean[CLAUSES];
        private final long[] stack = new long[DEEPEST];

        /** How many CLAUSES, or the FAULT. */
        int read(int[] from, int n) {
            length = Math.min(n, Math.min(from.length, LONGEST));
            System.arraycopy(from, 0, bytes, 0, length);
            clauses = 0;
            fault = 0;
            size = 0;
            at = 0;
            for (int c = 0; c <= CLAUSES; c++) {
                if (!beginClause() || !take('(') || !condition(1) || !take(')')) {
                    return fault;
                }
                endClause();
                if (at == length) {
                    return clauses;
                }
                if (!take(';')) {
                    return fault;
                }
            }
            return fault;
        }

        private int peek() {
            return at >= 0 && at < length ? bytes[at] : NONE;
        }

        private boolean refuse(int number) {
            fault = -1000 * number - at;
            return false;
        }

        private boolean take(int sign) {
            if (peek() != sign) {
                return refuse(MISPLACED);
            }
            at++;
            return true;
        }

        private void emit(int step, int number) {
            if (size < STEPS) {
                steps[size] = step;
                with[size] = number;
                size++;
            }
        }

        /** Lets all such jumps from a step on that lead nowhere yet lead here. */
        private void landHere(int from, int jump) {
            for (int i = from; i < size; i++) {
                if (steps[i] == jump && with[i] == NONE) {
                    with[i] = size;
                }
            }
        }

        private boolean beginClause() {
            int sign = peek();
            if (sign != 't' && sign != 'o') {
                return refuse(MISPLACED);
            }
            if (clauses >= CLAUSES) {
                return refuse(THIRTEENTH);
            }
            ofWorks = sign == 'o';
            at++;
            return true;
        }

        private void endClause() {
            if (clauses < CLAUSES) {
                asksWorks[clauses] = ofWorks;
                ends[clauses] = size;
                clauses++;
            }
        }

        private boolean condition(int open) {
            int whole = size;
            int part = size;
            for (int left = length; left > 0; left--) {
                if (!piece(open)) {
                    return false;
                }
                int sign = peek();
                if (sign == '&') {
                    emit('&', NONE);
                } else {
                    landHere(part, '&');
                    if (sign != '|') {
                        landHere(whole, '|');
                        return true;
                    }
                    emit('|', NONE);
                    part = size;
                }
                at++;
            }
            return refuse(MISPLACED);
        }

        private boolean piece(int open) {
            int sign = peek();
            if (sign == '!' || sign == '(') {
                if (open >= OPEN) {
                    return refuse(SEVENTH_OPEN);
                }
                at++;
                if (sign == '(') {
                    return condition(open + 1) && take(')');
                }
                if (!piece(open + 1)) {
                    return false;
                }
                emit('!', 0);
                return true;
            }
            if (!sum(open)) {
                return false;
            }
            int compared = peek();
            if (compared != '<' && compared != '>' && compared != '=') {
                return refuse(MISPLACED);
            }
            at++;
            if (!sum(open)) {
                return false;
            }
            emit(compared, 0);
            return true;
        }

        private boolean sum(int open) {
            int times = 0;
            int plus = 0;
            for (int left = length; left > 0; left--) {
                if (!factor(open)) {
                    return false;
                }
                if (times != 0) {
                    emit(times, 0);
                }
                int sign = peek();
                times = sign == '*' || sign == '/' || sign == '%' ? sign : 0;
                if (times == 0) {
                    if (plus != 0) {
                        emit(plus, 0);
                    }
                    if (sign != '+' && sign != '-') {
                        return true;
                    }
                    plus = sign;
                }
                at++;
            }
            return refuse(MISPLACED);
        }

        private boolean factor(int open) {
            int sign = peek();
            if (sign == '[') {
                if (open >= OPEN) {
                    return refuse(SEVENTH_OPEN);
                }
                at++;
                return sum(open + 1) && take(']');
            }
            if (isDigit(sign)) {
                return number();
            }
            for (int letter = 0; letter < LETTERS; letter++) {
                if (SIGNS[letter] == sign && isAsked(letter)) {
                    emit(A_LETTER, letter);
                    at++;
                    return true;
                }
            }
            return refuse(MISPLACED);
        }

        private boolean isAsked(int letter) {
            return letter < FLOW || (letter >= GIVES) == ofWorks;
        }

        private static boolean isDigit(int sign) {
            return sign >= '0' && sign <= '9';
        }

        private boolean number() {
            int value = 0;
            for (int digits = 0; digits < DIGITS && isDigit(peek()); digits++) {
                value = value * 10 + peek() - '0';
                at++;
            }
            if (isDigit(peek())) {
                return refuse(SEVENTH_DIGIT);
            }
            emit(A_NUMBER, value);
            return true;
        }

        /** Whether some CLAUSE of WORKS (or of WIRES) holds by these letters. */
        boolean holds(boolean forWorks, long[] letters) {
            int from = 0;
            for (int c = 0; c < clauses; c++) {
                if (asksWorks[c] == forWorks && holdsFrom(from, ends[c], letters)) {
                    return true;
                }
                from = ends[c];
            }
            return false;
        }

        private boolean holdsFrom(int from, int to, long[] letters) {
            boolean so = false;
            int next = from;
            int top = 0;
            for (int p = from; p < to; p++) {
                if (p < next) {
                    continue;
                }
                int step = steps[p];
                if (step == A_NUMBER || step == A_LETTER) {
                    if (top >= DEEPEST) {
                        return false;
                    }
                    stack[top] = step == A_NUMBER ? with[p] : letters[with[p]];
                    top++;
                } else if (step == '!') {
                    so = !so;
                } else if (step == '&') {
                    next = so ? next : with[p];
                } else if (step == '|') {
                    next = so ? with[p] : next;
                } else if (top < 2) {
                    return false;
                } else {
                    long right = stack[top - 1];
                    long left = stack[top - 2];
                    if (right == 0 && (step == '/' || step == '%')) {
                        return false;
                    }
                    if (step == '<' || step == '>' || step == '=') {
                        so = step == '<' ? left < right : step == '>' ? left > right : left == right;
                        top -= 2;
                    } else {
                        stack[top - 2] = reckoned(step, left, right);
                        top--;
                    }
                }
            }
            return so;
        }

        private static long reckoned(int step, long left, long right) {
            switch (step) {
                case '+': return left + right;
                case '-': return left - right;
                case '*': return left * right;
                case '/': return right == 0 ? 0 : left / right;
                default: return right == 0 ? 0 : left % right;
            }
        }
    }

    /** SCREENS of LANDS. */
    private static final class Screens {
        final boolean[] stopped = new boolean[LANDS];
        final int[] minutes = {NONE, NONE, NONE, NONE};
        final int[] signs = {NONE, NONE, NONE, NONE};
        final int[] on = new int[LANDS];
        final long[][] flows = new long[LANDS][WIRES];

        boolean shows(Net net, int k, int w) {
            return minutes[k] != NONE && net.touches(w, k);
        }

        void takeIn(Net net, State began, Standing stands) {
            for (int k = 0; k < LANDS; k++) {
                if (!stopped[k]) {
                    take(net, k, began, stands);
                } else if (signs[k] == NONE && differs(net, k, began, stands)) {
                    signs[k] = began.minute;
                }
            }
        }

        private void take(Net net, int k, State began, Standing stands) {
            minutes[k] = began.minute;
            on[k] = 0;
            for (int w = 0; w < net.wires; w++) {
                on[k] |= began.is[w] == ON ? 1 << w : 0;
                flows[k][w] = stands.told[w];
            }
        }

        private boolean differs(Net net, int k, State began, Standing stands) {
            for (int w = 0; w < net.wires; w++) {
                boolean wasOn = (on[k] >> w & 1) == 1;
                boolean same = wasOn == (began.is[w] == ON) && flows[k][w] == stands.told[w];
                if (shows(net, k, w) && !same) {
                    return true;
                }
            }
            return false;
        }
    }

    /** CLOCKS of LANDS, and ROWS by them. */
    private static final class Clocks {
        static final int MOST_ROWS = 40;
        static final int MOST_TOLD = 100;

        private static final int TRUE_TIME = LANDS;
        private static final int POINTS = LANDS + 1;
        private static final int FAR = 1000000;

        int rows;
        int told;
        final int[] low = new int[LANDS];
        final int[] high = new int[LANDS];
        private final int[] land = new int[MOST_ROWS];
        private final int[] time = new int[MOST_ROWS];
        private final int[] first = new int[MOST_TOLD];
        private final int[] second = new int[MOST_TOLD];
        // By how much at most the CLOCK of the second point is more ahead than that of the first.
        private final int[][] lead = new int[POINTS][POINTS];

        boolean hasRow(int x) {
            return x >= 0 && x < rows;
        }

        int addRow(int k, int when) {
            land[rows] = k;
            time[rows] = when;
            rows++;
            return rows - 1;
        }

        void addTold(int x, int y) {
            first[told] = x;
            second[told] = y;
            told++;
        }

        int compare(int x, int y) {
            bound();
            close();
            for (int i = 0; i < POINTS; i++) {
                if (lead[i][i] < 0) {
                    return 4;
                }
            }
            int later = time[y] - time[x];
            int most = lead[land[x]][land[y]];
            int least = -lead[land[y]][land[x]];
            if (most < later) {
                return 0;
            }
            if (least > later) {
                return 1;
            }
            return most == later && least == later ? 2 : 3;
        }

        private void bound() {
            for (int i = 0; i < POINTS; i++) {
                Arrays.fill(lead[i], FAR);
                lead[i][i] = 0;
            }
            for (int k = 0; k < LANDS; k++) {
                lead[TRUE_TIME][k] = high[k];
                lead[k][TRUE_TIME] = -low[k];
            }
            for (int i = 0; i < told; i++) {
                int a = land[first[i]];
                int b = land[second[i]];
                lead[a][b] = Math.min(lead[a][b], time[second[i]] - time[first[i]]);
            }
        }

        /** By way of every other point: what then stands is reached by some CLOCKS, if any fit at all. */
        private void close() {
            for (int by = 0; by < POINTS; by++) {
                for (int a = 0; a < POINTS; a++) {
                    for (int b = 0; b < POINTS; b++) {
                        lead[a][b] = Math.min(lead[a][b], lead[a][by] + lead[by][b]);
                    }
                }
            }
        }
    }

    /** BEGIN AGAIN: what is dark hangs on which WORKS run, not on their row, so sets of WORKS do. */
    private static final class Beginning {
        final boolean[] alone = new boolean[WORKS];
        final int[] minutes = {10, 10, 10, 10, 10, 10, 10, 10, 10};
        final int[] best = new int[WORKS];
        // For each set of WORKS that run, the least DARK from there on; NONE: it comes to no end.
        final int[] least = new int[1 << WORKS];
        private final int[] unlit = new int[1 << WORKS];
        private final int[] hang = new int[SPOTS];

        boolean find(Net net, State s) {
            net.hangTogether(s, true, hang);
            int all = (1 << net.works) - 1;
            least[all] = 0;
            for (int set = all - 1; set >= 0; set--) {
                unlit[set] = unlitBy(net, s, set);
                least[set] = leastFrom(net, set);
            }
            if (least[0] == NONE) {
                return false;
            }
            tellBest(net);
            return true;
        }

        private int leastFrom(Net net, int set) {
            int found = NONE;
            int reached = reachedBy(net, set);
            for (int k = 0; k < net.works; k++) {
                int darkness = darkWith(net, set, reached, k);
                if (darkness != NONE && (found == NONE || darkness < found)) {
                    found = darkness;
                }
            }
            return found;
        }

        /** The least DARK from a set on if WORKS k begin next, NONE if they can't. */
        private int darkWith(Net net, int set, int reached, int k) {
            boolean can = alone[k] || (reached >> hang[net.at[k]] & 1) == 1;
            int then = set | 1 << k;
            if (then == set || !can || least[then] == NONE) {
                return NONE;
            }
            return minutes[k] * unlit[set] + least[then];
        }

        private void tellBest(Net net) {
            int set = 0;
            for (int i = 0; i < net.works; i++) {
                int reached = reachedBy(net, set);
                for (int k = 0; k < net.works; k++) {
                    if (darkWith(net, set, reached, k) == least[set]) {
                        best[i] = k;
                        set |= 1 << k;
                        break;
                    }
                }
            }
        }

        /** The lowest SPOTS of what hangs together with WORKS that run, as bits. */
        private int reachedBy(Net net, int set) {
            int reached = 0;
            for (int k = 0; k < net.works; k++) {
                if ((set >> k & 1) == 1) {
                    reached |= 1 << hang[net.at[k]];
                }
            }
            return reached;
        }

        private int unlitBy(Net net, State s, int set) {
            int most = 0;
            for (int k = 0; k < net.works; k++) {
                most += (set >> k & 1) == 1 ? net.most[k] : 0;
            }
            int reached = reachedBy(net, set);
            int lit = 0;
            int loads = 0;
            for (int i = 0; i < net.spots; i++) {
                int spot = net.byRank[i];
                int itsLoad = s.loads[spot];
                loads += itsLoad;
                if ((reached >> hang[spot] & 1) == 1 && lit + itsLoad <= most) {
                    lit += itsLoad;
                }
            }
            return loads - lit;
        }
    }

    /** Bytes that were fed and not yet read. */
    private static final class Tape {
        static final int LONGEST = 200;
        static final int THREE_NUMBERS = 12;

        private static final int AT_ONCE = 20;

        int size;
        final int[] bytes = new int[LONGEST];

        boolean hasRoom() {
            return size <= LONGEST - AT_ONCE;
        }

        void append(int four) {
            for (int shift = 24; shift >= 0; shift -= 8) {
                if (size < LONGEST) {
                    bytes[size] = four >>> shift & 255;
                    size++;
                }
            }
        }

        int numberAt(int place) {
            int number = 0;
            for (int i = 4 * place; i < 4 * place + 4; i++) {
                number = number << 8 | (i >= 0 && i < LONGEST ? bytes[i] : 0);
            }
            return number;
        }
    }
}
