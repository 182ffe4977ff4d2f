import java.math.BigInteger;
import java.util.ArrayList;
import java.util.Arrays;
import java.util.List;

/**
 * The document once more, as slowly and plainly as it can be said: what SaggingNet is held against.
 * Flows by fractions of any size, orders and clocks by trying all, texts asked as they are written.
 */
final class PlainNet {
    static final int NONE = -1;

    static final class Spot {
        int land, load, rank;
        boolean dark;
    }

    static final class Wire {
        int a, b, ease, limit, room, tree, warmth, is;
    }

    static final class Works {
        int spot, most, price;
        boolean on = true;
    }

    static final class Net {
        final List<Spot> spots = new ArrayList<>();
        final List<Wire> wires = new ArrayList<>();
        final List<Works> works = new ArrayList<>();
        int minute, went;

        Net copy() {
            Net c = new Net();
            c.minute = minute;
            c.went = went;
            for (Spot s : spots) {
                Spot t = new Spot();
                t.land = s.land;
                t.load = s.load;
                t.rank = s.rank;
                t.dark = s.dark;
                c.spots.add(t);
            }
            for (Wire w : wires) {
                Wire v = new Wire();
                v.a = w.a;
                v.b = w.b;
                v.ease = w.ease;
                v.limit = w.limit;
                v.room = w.room;
                v.tree = w.tree;
                v.warmth = w.warmth;
                v.is = w.is;
                c.wires.add(v);
            }
            for (Works k : works) {
                Works l = new Works();
                l.spot = k.spot;
                l.most = k.most;
                l.price = k.price;
                l.on = k.on;
                c.works.add(l);
            }
            return c;
        }
    }

    /** A fraction: over is above 0. */
    record Part(BigInteger top, BigInteger over) {
        static Part of(long n) {
            return new Part(BigInteger.valueOf(n), BigInteger.ONE);
        }

        Part minus(Part o) {
            return made(top.multiply(o.over).subtract(o.top.multiply(over)), over.multiply(o.over));
        }

        Part times(Part o) {
            return made(top.multiply(o.top), over.multiply(o.over));
        }

        Part through(Part o) {
            return made(top.multiply(o.over), over.multiply(o.top));
        }

        static Part made(BigInteger top, BigInteger over) {
            BigInteger g = top.gcd(over);
            if (over.signum() < 0) {
                g = g.negate();
            }
            return new Part(top.divide(g), over.divide(g));
        }

        Part abs() {
            return new Part(top.abs(), over);
        }

        boolean above(long n) {
            return top.compareTo(over.multiply(BigInteger.valueOf(n))) > 0;
        }

        long floor() {
            return top.divide(over).longValueExact();
        }

        long told() {
            long n = abs().times(of(100)).floor();
            return top.signum() < 0 ? -n : n;
        }
    }

    static final class Stand {
        final List<Integer> shed = new ArrayList<>();
        boolean[] dark;
        int[] island;
        int[] reserve;
        int[] gives;
        Part[] flow;
    }

    static int[] islands(Net n, boolean alsoOff) {
        int[] island = new int[n.spots.size()];
        Arrays.fill(island, -1);
        for (int s = 0; s < island.length; s++) {
            if (island[s] < 0) {
                visit(n, alsoOff, s, s, island);
            }
        }
        return island;
    }

    private static void visit(Net n, boolean alsoOff, int s, int root, int[] island) {
        island[s] = root;
        for (Wire w : n.wires) {
            if (w.is == 0 || alsoOff && w.is != 3) {
                int other = w.a == s ? w.b : w.b == s ? w.a : -1;
                if (other >= 0 && island[other] < 0) {
                    visit(n, alsoOff, other, root, island);
                }
            }
        }
    }

    static Stand stand(Net n) {
        Stand r = new Stand();
        int many = n.spots.size();
        r.island = islands(n, false);
        r.dark = new boolean[many];
        r.reserve = new int[many];
        r.gives = new int[n.works.size()];
        r.flow = new Part[n.wires.size()];
        Arrays.fill(r.flow, Part.of(0));
        for (int s = 0; s < many; s++) {
            r.dark[s] = n.spots.get(s).dark;
        }
        for (int root = 0; root < many; root++) {
            if (r.island[root] == root) {
                standIsland(n, r, root);
            }
        }
        heights(n, r);
        return r;
    }

    private static int loads(Net n, Stand r, int root) {
        int sum = 0;
        for (int s = 0; s < n.spots.size(); s++) {
            if (r.island[s] == root && !r.dark[s]) {
                sum += n.spots.get(s).load;
            }
        }
        return sum;
    }

    private static void standIsland(Net n, Stand r, int root) {
        int most = 0;
        for (Works k : n.works) {
            if (k.on && r.island[k.spot] == root) {
                most += k.most;
            }
        }
        while (most < loads(n, r, root)) {
            int worst = -1;
            for (int s = 0; s < n.spots.size(); s++) {
                Spot t = n.spots.get(s);
                boolean may = r.island[s] == root && !r.dark[s] && t.load > 0;
                if (may && (worst < 0 || t.rank <= n.spots.get(worst).rank)) {
                    worst = s;
                }
            }
            r.dark[worst] = true;
            r.shed.add(worst);
        }
        int rest = loads(n, r, root);
        for (int s = 0; s < n.spots.size(); s++) {
            if (r.island[s] == root) {
                r.reserve[s] = most - rest;
            }
        }
        for (int price = 0; price <= 99; price++) {
            for (int k = 0; k < n.works.size(); k++) {
                Works f = n.works.get(k);
                if (f.on && f.price == price && r.island[f.spot] == root) {
                    r.gives[k] = Math.min(rest, f.most);
                    rest -= r.gives[k];
                }
            }
        }
    }

    /** All ISLANDS at once: one equation a SPOT, the root of each at height 0. */
    private static void heights(Net n, Stand r) {
        int many = n.spots.size();
        Part[][] m = new Part[many][many + 1];
        for (int s = 0; s < many; s++) {
            Arrays.fill(m[s], Part.of(0));
            if (r.island[s] == s) {
                m[s][s] = Part.of(1);
                continue;
            }
            long push = r.dark[s] ? 0 : -n.spots.get(s).load;
            for (int k = 0; k < n.works.size(); k++) {
                push += n.works.get(k).spot == s ? r.gives[k] : 0;
            }
            m[s][many] = Part.of(push);
            for (Wire w : n.wires) {
                if (w.is == 0 && (w.a == s || w.b == s)) {
                    int other = w.a == s ? w.b : w.a;
                    m[s][s] = m[s][s].minus(Part.of(-w.ease));
                    m[s][other] = m[s][other].minus(Part.of(w.ease));
                }
            }
        }
        solve(m, many);
        for (int w = 0; w < n.wires.size(); w++) {
            Wire v = n.wires.get(w);
            if (v.is == 0) {
                r.flow[w] = m[v.a][many].minus(m[v.b][many]).times(Part.of(v.ease));
            }
        }
    }

    private static void solve(Part[][] m, int many) {
        for (int p = 0; p < many; p++) {
            int row = p;
            while (m[row][p].top().signum() == 0) {
                row++;
            }
            Part[] swap = m[row];
            m[row] = m[p];
            m[p] = swap;
            Part lead = m[p][p];
            for (int j = 0; j <= many; j++) {
                m[p][j] = m[p][j].through(lead);
            }
            for (int i = 0; i < many; i++) {
                Part factor = m[i][p];
                if (i != p && factor.top().signum() != 0) {
                    for (int j = 0; j <= many; j++) {
                        m[i][j] = m[i][j].minus(factor.times(m[p][j]));
                    }
                }
            }
        }
    }

    record Event(int kind, int number, int minute) {
    }

    /** A MINUTE goes by in this net; what came. */
    List<Event> pass(Net n) {
        List<Event> came = new ArrayList<>();
        Stand r = stand(n);
        for (int s : r.shed) {
            n.spots.get(s).dark = true;
            came.add(new Event(0, s, n.minute));
        }
        for (int w = 0; w < n.wires.size(); w++) {
            Wire v = n.wires.get(w);
            long more = v.is == 0 ? r.flow[w].abs().times(Part.of(100)).through(Part.of(v.limit)).floor() : 0;
            v.warmth = (int) Math.min(1000000, Math.max(0, v.warmth + more - cool));
        }
        int went = 0;
        for (int w = 0; w < n.wires.size(); w++) {
            Wire v = n.wires.get(w);
            if (v.is == 0 && v.tree != 0 && v.warmth + v.tree >= v.room) {
                v.is = 3;
                went++;
                came.add(new Event(1, w, n.minute));
            }
        }
        for (int w = 0; w < n.wires.size(); w++) {
            Wire v = n.wires.get(w);
            if (v.is == 0 && guards('t', n, r, w)) {
                v.is = 2;
                went++;
                came.add(new Event(2, w, n.minute));
            }
        }
        for (int k = 0; k < n.works.size(); k++) {
            if (n.works.get(k).on && guards('o', n, r, k)) {
                n.works.get(k).on = false;
                came.add(new Event(3, k, n.minute));
            }
        }
        n.went = went;
        n.minute++;
        return came;
    }

    static int darkLoads(Net n) {
        int sum = 0;
        for (Spot s : n.spots) {
            sum += s.dark ? s.load : 0;
        }
        return sum;
    }

    // ---- RULES ----

    private static final class Refused extends RuntimeException {
        private static final long serialVersionUID = 1L;
    }

    private static final class Fault extends RuntimeException {
        private static final long serialVersionUID = 1L;
        final int answer;

        Fault(int kind, int place) {
            answer = -1000 * kind - place;
        }
    }

    private boolean guards(char kind, Net n, Stand r, int i) {
        for (String clause : text.isEmpty() ? new String[0] : text.split(";")) {
            if (clause.charAt(0) == kind) {
                try {
                    if (new Asker(clause.substring(2, clause.length() - 1), kind, n, r, i).any()) {
                        return true;
                    }
                } catch (Refused refused) {
                    continue;
                }
            }
        }
        return false;
    }

    /** Asks a C as it is written: what does not matter is cut off by its brackets and never looked at. */
    private static final class Asker {
        private final String c;
        private final char kind;
        private final Net n;
        private final Stand r;
        private final int i;

        Asker(String c, char kind, Net n, Stand r, int i) {
            this.c = c;
            this.kind = kind;
            this.n = n;
            this.r = r;
            this.i = i;
        }

        boolean any() {
            return any(c);
        }

        private static List<String> split(String s, String signs) {
            List<String> parts = new ArrayList<>();
            int deep = 0;
            int from = 0;
            for (int p = 0; p < s.length(); p++) {
                char ch = s.charAt(p);
                deep += ch == '(' || ch == '[' ? 1 : ch == ')' || ch == ']' ? -1 : 0;
                if (deep == 0 && signs.indexOf(ch) >= 0) {
                    parts.add(s.substring(from, p));
                    parts.add("" + ch);
                    from = p + 1;
                }
            }
            parts.add(s.substring(from));
            return parts;
        }

        private boolean any(String s) {
            List<String> parts = split(s, "|");
            for (int p = 0; p < parts.size(); p += 2) {
                if (all(parts.get(p))) {
                    return true;
                }
            }
            return false;
        }

        private boolean all(String s) {
            List<String> pieces = split(s, "&");
            for (int p = 0; p < pieces.size(); p += 2) {
                if (!piece(pieces.get(p))) {
                    return false;
                }
            }
            return true;
        }

        private boolean piece(String s) {
            if (s.charAt(0) == '!') {
                return !piece(s.substring(1));
            }
            if (s.charAt(0) == '(') {
                return any(s.substring(1, s.length() - 1));
            }
            List<String> sides = split(s, "<>=");
            long left = sum(sides.get(0));
            long right = sum(sides.get(2));
            return sides.get(1).equals("<") ? left < right : sides.get(1).equals(">") ? left > right : left == right;
        }

        private long sum(String s) {
            List<String> terms = split(s, "+-");
            long sum = product(terms.get(0));
            for (int p = 1; p < terms.size(); p += 2) {
                long next = product(terms.get(p + 1));
                sum = terms.get(p).equals("+") ? sum + next : sum - next;
            }
            return sum;
        }

        private long product(String s) {
            List<String> factors = split(s, "*/%");
            long product = factor(factors.get(0));
            for (int p = 1; p < factors.size(); p += 2) {
                long next = factor(factors.get(p + 1));
                String sign = factors.get(p);
                if (sign.equals("*")) {
                    product *= next;
                } else if (next == 0) {
                    throw new Refused();
                } else {
                    product = sign.equals("/") ? product / next : product % next;
                }
            }
            return product;
        }

        private long factor(String s) {
            char ch = s.charAt(0);
            if (ch == '[') {
                return sum(s.substring(1, s.length() - 1));
            }
            if (ch >= '0' && ch <= '9') {
                return Long.parseLong(s);
            }
            Wire w = kind == 't' ? n.wires.get(i) : null;
            Works k = kind == 'o' ? n.works.get(i) : null;
            int spot = w != null ? w.a : k.spot;
            switch (ch) {
                case 'm': return n.minute;
                case 'i': return i;
                case 'k': return n.spots.get(spot).land;
                case 'r': return r.reserve[spot];
                case 'd': return darkLoads(n);
                case 'n': return n.went;
                case 'f': return Math.abs(r.flow[i].told());
                case 'l': return w.limit;
                case 'w': return w.warmth;
                case 'g': return r.gives[i];
                case 'x': return k.most;
                default: throw new IllegalStateException(s);
            }
        }
    }

    /** Reads a text sign by sign: at each place, what could stand there. */
    static int read(String s) {
        try {
            int clauses = 0;
            int p = 0;
            while (true) {
                char kind = sign(s, p);
                if (kind != 't' && kind != 'o') {
                    throw new Fault(1, p);
                }
                if (clauses == 12) {
                    throw new Fault(4, p);
                }
                p = readClause(s, p + 1, kind);
                clauses++;
                if (p == s.length()) {
                    return clauses;
                }
                if (sign(s, p) != ';') {
                    throw new Fault(1, p);
                }
                p++;
            }
        } catch (Fault fault) {
            return fault.answer;
        }
    }

    private static char sign(String s, int p) {
        return p < s.length() ? s.charAt(p) : 0;
    }

    /** One machine with a stack of what is open: ( [ ! and, of each E, whether it was compared already. */
    private static int readClause(String s, int at, char kind) {
        if (sign(s, at) != '(') {
            throw new Fault(1, at);
        }
        String letters = kind == 't' ? "mikrdnflw" : "mikrdngx";
        StringBuilder open = new StringBuilder("(");
        int p = at + 1;
        boolean factorDue = true;
        boolean pieceDue = true;
        boolean compared = false;
        while (open.length() > 0) {
            char ch = sign(s, p);
            if (factorDue) {
                if (ch == '[' || pieceDue && (ch == '(' || ch == '!')) {
                    if (open.length() == 6) {
                        throw new Fault(5, p);
                    }
                    open.append(ch);
                    if (ch == '[') {
                        pieceDue = false;
                    }
                    p++;
                } else if (ch >= '0' && ch <= '9') {
                    int digits = 0;
                    while (sign(s, p) >= '0' && sign(s, p) <= '9') {
                        if (digits == 6) {
                            throw new Fault(2, p);
                        }
                        digits++;
                        p++;
                    }
                    factorDue = false;
                    pieceDue = false;
                } else if (ch != 0 && letters.indexOf(ch) >= 0) {
                    p++;
                    factorDue = false;
                    pieceDue = false;
                } else {
                    throw new Fault(1, p);
                }
                continue;
            }
            boolean inBrackets = open.charAt(open.length() - 1) == '[';
            if (ch != 0 && "+-*/%".indexOf(ch) >= 0 && !pieceDue) {
                factorDue = true;
            } else if (ch == ']' && inBrackets) {
                open.setLength(open.length() - 1);
            } else if (ch != 0 && "<>=".indexOf(ch) >= 0 && !inBrackets && !compared && !pieceDue) {
                compared = true;
                factorDue = true;
            } else if (ch != 0 && "&|)".indexOf(ch) >= 0 && !inBrackets && (compared || pieceDue)) {
                // The PIECE ends, and with it each ! before it.
                while (open.length() > 0 && open.charAt(open.length() - 1) == '!') {
                    open.setLength(open.length() - 1);
                }
                compared = false;
                if (ch == ')') {
                    open.setLength(open.length() - 1);
                    // What is closed is a PIECE: after it none of + * < can stand.
                    pieceDue = true;
                } else {
                    factorDue = true;
                    pieceDue = true;
                }
            } else {
                throw new Fault(1, p);
            }
            p++;
        }
        return p;
    }

    // ---- the object ----

    Net now = new Net();
    String text = "";
    int clauses;
    int cool = 100;
    final List<Net> past = new ArrayList<>();
    final List<Integer> borne = new ArrayList<>();
    final List<Event> events = new ArrayList<>();
    byte[] tape = new byte[0];
    final int[] low = new int[4];
    final int[] high = new int[4];
    final List<int[]> rows = new ArrayList<>();
    final List<int[]> told = new ArrayList<>();
    final boolean[] alone = new boolean[9];
    final int[] takes = {10, 10, 10, 10, 10, 10, 10, 10, 10};
    final int[] costs = {1, 1, 1, 1, 1, 1, 1, 1, 1, 1, 1, 1, 1, 1};

    record Seen(int minute, boolean[] on, long[] flow) {
    }

    final List<Seen> seen = new ArrayList<>();
    final boolean[] stopped = new boolean[4];
    final Seen[] screen = new Seen[4];
    final int[] stoppedAt = new int[4];

    boolean wireIsThere(int w) {
        return w >= 0 && w < now.wires.size();
    }

    int spot(int land, int load, int rank) {
        if (now.minute != 0 || now.spots.size() == 8 || land < 0 || land > 3 || load < 0 || load > 2000
                || rank < 0 || rank > 9) {
            return NONE;
        }
        Spot s = new Spot();
        s.land = land;
        s.load = load;
        s.rank = rank;
        now.spots.add(s);
        return now.spots.size() - 1;
    }

    int wire(int a, int b, int ease, int limit, int room) {
        int many = now.spots.size();
        if (now.minute != 0 || now.wires.size() == 14 || a < 0 || a >= many || b < 0 || b >= many || a == b
                || ease < 1 || ease > 3 || limit < 1 || limit > 5000 || room < 1 || room > 100000) {
            return NONE;
        }
        Wire w = new Wire();
        w.a = a;
        w.b = b;
        w.ease = ease;
        w.limit = limit;
        w.room = room;
        now.wires.add(w);
        return now.wires.size() - 1;
    }

    int works(int spot, int most, int price) {
        if (now.minute != 0 || now.works.size() == 9 || spot < 0 || spot >= now.spots.size()
                || most < 1 || most > 5000 || price < 0 || price > 99) {
            return NONE;
        }
        Works k = new Works();
        k.spot = spot;
        k.most = most;
        k.price = price;
        now.works.add(k);
        return now.works.size() - 1;
    }

    boolean tree(int w, int n) {
        if (!wireIsThere(w) || n < 0 || n > 100000) {
            return false;
        }
        now.wires.get(w).tree = n;
        return true;
    }

    boolean cool(int n) {
        if (n < 0 || n > 1000) {
            return false;
        }
        cool = n;
        return true;
    }

    boolean turn(int w, boolean on) {
        if (!wireIsThere(w)) {
            return false;
        }
        int is = now.wires.get(w).is;
        if (is == 3 || on && is == 0 || !on && is != 0) {
            return false;
        }
        now.wires.get(w).is = on ? 0 : 1;
        return true;
    }

    boolean run(int k, boolean on) {
        if (k < 0 || k >= now.works.size() || now.works.get(k).on == on) {
            return false;
        }
        now.works.get(k).on = on;
        return true;
    }

    boolean shed(int s, boolean is) {
        if (s < 0 || s >= now.spots.size() || now.spots.get(s).dark == is) {
            return false;
        }
        now.spots.get(s).dark = is;
        return true;
    }

    boolean load(int s, int n) {
        if (s < 0 || s >= now.spots.size() || n < 0 || n > 2000) {
            return false;
        }
        now.spots.get(s).load = n;
        return true;
    }

    boolean mend(int w) {
        if (!wireIsThere(w) || now.wires.get(w).is != 3) {
            return false;
        }
        now.wires.get(w).is = 1;
        return true;
    }

    int feed(int... five) {
        if (tape.length + 20 > 200) {
            return NONE;
        }
        byte[] longer = Arrays.copyOf(tape, tape.length + 20);
        for (int i = 0; i < 5; i++) {
            for (int j = 0; j < 4; j++) {
                longer[tape.length + 4 * i + j] = (byte) (five[i] >> 24 - 8 * j);
            }
        }
        tape = longer;
        return tape.length;
    }

    int rules(int n) {
        if (n < 1 || n > 160 || n > tape.length) {
            return NONE;
        }
        String s = new String(tape, 0, n, java.nio.charset.StandardCharsets.ISO_8859_1);
        tape = new byte[0];
        int answer = read(s);
        if (answer > 0) {
            text = s;
            clauses = answer;
        }
        return answer;
    }

    int goes() {
        if (now.minute == 499) {
            return NONE;
        }
        int bits = 0;
        for (int w = 0; w < now.wires.size(); w++) {
            bits |= cantBeBorne(w) << w;
        }
        borne.add(bits);
        past.add(now.copy());
        Stand r = stand(now);
        boolean[] on = new boolean[now.wires.size()];
        long[] flow = new long[on.length];
        for (int w = 0; w < on.length; w++) {
            on[w] = now.wires.get(w).is == 0;
            flow[w] = r.flow[w].told();
        }
        seen.add(new Seen(now.minute, on, flow));
        for (int k = 0; k < 4; k++) {
            if (!stopped[k]) {
                screen[k] = seen.get(now.minute);
            }
        }
        List<Event> came = pass(now);
        for (Event e : came) {
            if (events.size() < 400) {
                events.add(e);
            }
        }
        return came.size();
    }

    int cantBeBorne(int w) {
        if (now.wires.get(w).is != 0) {
            return 0;
        }
        Stand as = stand(now);
        Net without = now.copy();
        without.wires.get(w).is = 1;
        Stand then = stand(without);
        for (int v = 0; v < then.flow.length; v++) {
            if (then.flow[v].abs().above(now.wires.get(v).limit)) {
                return 1;
            }
        }
        for (int s = 0; s < then.dark.length; s++) {
            if (then.dark[s] && !as.dark[s]) {
                return 1;
            }
        }
        return 0;
    }

    long flow(int w) {
        return wireIsThere(w) ? stand(now).flow[w].told() : -1000000000L;
    }

    int wireIs(int w, int what) {
        if (!wireIsThere(w) || what < 0 || what > 3) {
            return NONE;
        }
        Wire v = now.wires.get(w);
        return what == 0 ? v.is : what == 1 ? v.warmth : what == 2 ? v.tree : cantBeBorne(w);
    }

    int worksAre(int k, int what) {
        if (k < 0 || k >= now.works.size() || what < 0 || what > 1) {
            return NONE;
        }
        return what == 0 ? now.works.get(k).on ? 1 : 0 : stand(now).gives[k];
    }

    int spotIs(int s, int what) {
        if (s < 0 || s >= now.spots.size() || what < 0 || what > 4) {
            return NONE;
        }
        Stand r = stand(now);
        switch (what) {
            case 0: return now.spots.get(s).load;
            case 1: return now.spots.get(s).dark ? 1 : 0;
            case 2: return r.dark[s] ? 1 : 0;
            case 3: return r.island[s];
            default: return r.reserve[s];
        }
    }

    int event(int e, int what) {
        if (e < 0 || e >= events.size() || what < 0 || what > 3) {
            return NONE;
        }
        Event y = events.get(e);
        if (what < 3) {
            return what == 0 ? y.kind() : what == 1 ? y.number() : y.minute();
        }
        for (int i = 0; i < events.size(); i++) {
            Event x = events.get(i);
            if (x.minute() + 1 == y.minute() && x.kind() >= 1) {
                Net n = past.get(y.minute()).copy();
                if (x.kind() == 3) {
                    n.works.get(x.number()).on = true;
                } else {
                    n.wires.get(x.number()).is = 0;
                }
                if (!pass(n).contains(y)) {
                    return i;
                }
            }
        }
        return NONE;
    }

    int bear(int m) {
        return m >= 0 && m < now.minute ? borne.get(m) : NONE;
    }

    int firstBorne() {
        for (int m = 0; m < now.minute; m++) {
            if (borne.get(m) != 0) {
                return m;
            }
        }
        return NONE;
    }

    boolean stop(int k, boolean is) {
        if (k < 0 || k > 3 || stopped[k] == is) {
            return false;
        }
        stopped[k] = is;
        stoppedAt[k] = now.minute;
        return true;
    }

    private boolean hasEnd(int w, int k) {
        Wire v = now.wires.get(w);
        return now.spots.get(v.a).land == k || now.spots.get(v.b).land == k;
    }

    long shown(int k, int w, int what) {
        if (k < 0 || k > 3 || !wireIsThere(w) || what < 0 || what > 2 || screen[k] == null || !hasEnd(w, k)) {
            return NONE;
        }
        return what == 0 ? screen[k].on()[w] ? 1 : 0 : what == 1 ? screen[k].flow()[w] : screen[k].minute();
    }

    int sign(int k) {
        if (k < 0 || k > 3 || !stopped[k] || screen[k] == null) {
            return NONE;
        }
        for (int m = stoppedAt[k]; m < now.minute; m++) {
            Seen then = seen.get(m);
            for (int w = 0; w < now.wires.size(); w++) {
                if (hasEnd(w, k) && (then.on()[w] != screen[k].on()[w] || then.flow()[w] != screen[k].flow()[w])) {
                    return m;
                }
            }
        }
        return NONE;
    }

    private boolean holds(int m, int set, int minutes) {
        Net n = (m == now.minute ? now : past.get(m)).copy();
        for (int s = 0; s < n.spots.size(); s++) {
            n.spots.get(s).dark |= (set >> s & 1) == 1;
        }
        boolean quiet = true;
        for (int i = 0; i < minutes && quiet; i++) {
            quiet = pass(n).isEmpty();
        }
        return quiet;
    }

    private boolean noSuch(int set, int minutes) {
        return set < 0 || set >= 1 << now.spots.size() || minutes < 1 || minutes > 30;
    }

    int held(int m, int set, int minutes) {
        if (m < 0 || m > now.minute || noSuch(set, minutes)) {
            return NONE;
        }
        return holds(m, set, minutes) ? 1 : 0;
    }

    int last(int set, int minutes) {
        if (noSuch(set, minutes)) {
            return NONE;
        }
        int last = NONE;
        for (int m = now.minute; m >= 0 && last == NONE; m--) {
            last = holds(m, set, minutes) ? m : NONE;
        }
        return last;
    }

    int least(int m, int minutes) {
        if (m < 0 || m > now.minute || noSuch(0, minutes)) {
            return NONE;
        }
        Net n = m == now.minute ? now : past.get(m);
        List<int[]> sets = new ArrayList<>();
        for (int set = 0; set < 1 << n.spots.size(); set++) {
            int loads = 0;
            for (int s = 0; s < n.spots.size(); s++) {
                loads += (set >> s & 1) == 1 && !n.spots.get(s).dark ? n.spots.get(s).load : 0;
            }
            sets.add(new int[] {loads, Integer.bitCount(set), set});
        }
        sets.sort(Arrays::compare);
        for (int[] one : sets) {
            if (holds(m, one[2], minutes)) {
                return one[2];
            }
        }
        return -2;
    }

    boolean clock(int k, int lowest, int highest) {
        if (k < 0 || k > 3 || lowest < -100 || highest > 100 || lowest > highest) {
            return false;
        }
        low[k] = lowest;
        high[k] = highest;
        return true;
    }

    int row(int k, int time) {
        if (k < 0 || k > 3 || time < 0 || time > 9999 || rows.size() == 40) {
            return NONE;
        }
        rows.add(new int[] {k, time});
        return rows.size() - 1;
    }

    boolean before(int x, int y) {
        int many = rows.size();
        if (x < 0 || x >= many || y < 0 || y >= many || x == y || told.size() == 100) {
            return false;
        }
        told.add(new int[] {x, y});
        return true;
    }

    /** By all CLOCKS there can be: fit for narrow ones alone. */
    int order(int x, int y) {
        int many = rows.size();
        if (x < 0 || x >= many || y < 0 || y >= many) {
            return NONE;
        }
        boolean ahead = false;
        boolean same = false;
        boolean behind = false;
        int[] c = low.clone();
        while (c[3] <= high[3]) {
            if (fits(c)) {
                int gap = when(x, c) - when(y, c);
                ahead |= gap < 0;
                same |= gap == 0;
                behind |= gap > 0;
            }
            c[0]++;
            for (int k = 0; k < 3 && c[k] > high[k]; k++) {
                c[k] = low[k];
                c[k + 1]++;
            }
        }
        if (!ahead && !same && !behind) {
            return 4;
        }
        return !same && !behind ? 0 : !ahead && !same ? 1 : !ahead && !behind ? 2 : 3;
    }

    private int when(int x, int[] c) {
        return rows.get(x)[1] - c[rows.get(x)[0]];
    }

    private boolean fits(int[] c) {
        for (int[] pair : told) {
            if (when(pair[0], c) > when(pair[1], c)) {
                return false;
            }
        }
        return true;
    }

    boolean begins(int k, boolean is, int minutes) {
        if (k < 0 || k >= now.works.size() || minutes < 1 || minutes > 100) {
            return false;
        }
        alone[k] = is;
        takes[k] = minutes;
        return true;
    }

    private List<Integer> bestRow;
    private long bestDark;

    long again(int what) {
        if (now.works.isEmpty()) {
            return -2;
        }
        boolean isPlace = what >= 0 && what < now.works.size();
        if (what != NONE && !isPlace) {
            return NONE;
        }
        bestRow = null;
        extend(new ArrayList<>(), 0, islands(now, true));
        if (bestRow == null) {
            return -2;
        }
        return isPlace ? bestRow.get(what) : bestDark;
    }

    private void extend(List<Integer> row, long dark, int[] hang) {
        if (row.size() == now.works.size()) {
            if (bestRow == null || dark < bestDark) {
                bestRow = new ArrayList<>(row);
                bestDark = dark;
            }
            return;
        }
        int unlit = unlit(row, hang);
        for (int k = 0; k < now.works.size(); k++) {
            boolean can = alone[k];
            for (int j : row) {
                can |= hang[now.works.get(j).spot] == hang[now.works.get(k).spot];
            }
            if (can && !row.contains(k)) {
                row.add(k);
                extend(row, dark + (long) takes[k] * unlit, hang);
                row.remove(row.size() - 1);
            }
        }
    }

    private int unlit(List<Integer> row, int[] hang) {
        int most = 0;
        for (int k : row) {
            most += now.works.get(k).most;
        }
        int all = 0;
        int lit = 0;
        for (int rank = 9; rank >= 0; rank--) {
            for (int s = 0; s < now.spots.size(); s++) {
                if (now.spots.get(s).rank != rank) {
                    continue;
                }
                int load = now.spots.get(s).load;
                all += load;
                boolean near = false;
                for (int k : row) {
                    near |= hang[now.works.get(k).spot] == hang[s];
                }
                if (near && lit + load <= most) {
                    lit += load;
                }
            }
        }
        return all - lit;
    }

    boolean cost(int w, int n) {
        if (!wireIsThere(w) || n < 1 || n > 1000) {
            return false;
        }
        costs[w] = n;
        return true;
    }

    int cut(int money, int minutes, int what) {
        if (money < 0 || money > 10000 || minutes < 1 || minutes > 30 || what < 0 || what > 1) {
            return NONE;
        }
        int may = 0;
        for (int w = 0; w < now.wires.size(); w++) {
            if (now.wires.get(w).is == 0 && now.wires.get(w).tree > 0 && Integer.bitCount(may) < 8) {
                may |= 1 << w;
            }
        }
        int[] best = null;
        for (int set = 0; set < 1 << now.wires.size(); set++) {
            if ((set & ~may) != 0) {
                continue;
            }
            Net n = now.copy();
            int sum = 0;
            for (int w = 0; w < n.wires.size(); w++) {
                if ((set >> w & 1) == 1) {
                    sum += costs[w];
                    n.wires.get(w).tree = 0;
                }
            }
            if (sum > money) {
                continue;
            }
            for (int i = 0; i < minutes; i++) {
                pass(n);
            }
            int[] one = {darkLoads(n), sum, set};
            if (best == null || Arrays.compare(one, best) < 0) {
                best = one;
            }
        }
        return what == 0 ? best[2] : best[0];
    }

    int check(int n) {
        if (n < 0 || 12L * n > tape.length) {
            return -2;
        }
        int[] is = new int[3 * n];
        for (int i = 0; i < is.length; i++) {
            is[i] = new BigInteger(Arrays.copyOfRange(tape, 4 * i, 4 * i + 4)).intValue();
        }
        tape = new byte[0];
        int[] due = new int[3 * now.wires.size()];
        for (int w = 0; w < now.wires.size(); w++) {
            due[3 * w] = w;
            due[3 * w + 1] = now.wires.get(w).is;
            due[3 * w + 2] = now.wires.get(w).warmth;
        }
        return Arrays.mismatch(is, due);
    }

    int count(int what) {
        int[] counts = {now.minute, now.spots.size(), now.wires.size(), now.works.size(), events.size(),
            clauses, rows.size(), told.size(), tape.length, cool, darkLoads(now)};
        if (what >= 0 && what < counts.length) {
            return counts[what];
        }
        return wireIsThere(what - 20) ? costs[what - 20] : NONE;
    }
}
