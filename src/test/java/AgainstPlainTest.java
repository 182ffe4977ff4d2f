/** All promises: runs of many calls, each answer held against that of the document said once more (PlainNet). */
public final class AgainstPlainTest {
    private static final int RUNS = 700;
    private static final int CALLS = 260;

    private long seed;
    private SaggingNet x;
    private PlainNet plain;
    private int run;

    public static void main(String[] args) {
        int runs = args.length > 0 ? Integer.parseInt(args[0]) : RUNS;
        int first = args.length > 1 ? Integer.parseInt(args[1]) : 0;
        for (int run = first; run < first + runs; run++) {
            new AgainstPlainTest().oneRun(run);
        }
        Due.end();
    }

    private int below(int n) {
        seed = seed * 6364136223846793005L + 1442695040888963407L;
        return (int) ((seed >>> 33) % n);
    }

    private int between(int low, int high) {
        return low + below(high - low + 1);
    }

    private boolean oneIn(int n) {
        return below(n) == 0;
    }

    private void due(String call, long got, long want) {
        Due.due("run " + run + ": " + call, got, want);
    }

    private void due(String call, boolean got, boolean want) {
        Due.due("run " + run + ": " + call, got, want);
    }

    private void oneRun(int number) {
        run = number;
        seed = number * 7919L + 17;
        for (int i = 0; i < 5; i++) {
            below(2);
        }
        x = new SaggingNet();
        plain = new PlainNet();
        tellNet();
        if (!oneIn(4)) {
            giveRules();
        }
        for (int i = 0; i < CALLS; i++) {
            oneCall();
        }
    }

    private void tellNet() {
        int spots = oneIn(3) ? between(0, 8) : between(2, 6);
        int maxLoad = oneIn(4) ? 2000 : 120;
        for (int i = 0; i < spots; i++) {
            spot(between(0, 3), oneIn(5) ? 0 : between(0, maxLoad), oneIn(2) ? between(0, 9) : between(4, 5));
        }
        int wires = oneIn(3) ? between(0, 14) : between(spots, Math.min(14, spots + 4));
        for (int i = 0; i < wires && spots > 1; i++) {
            int a = i < spots - 1 ? i : below(spots);
            int b = i < spots - 1 ? i + 1 : below(spots);
            wire(a, b, between(1, 3), oneIn(3) ? between(1, 60) : between(30, 400), between(50, 1500));
        }
        int works = oneIn(8) ? between(0, 9) : between(1, 4);
        for (int i = 0; i < works && spots > 0; i++) {
            works(below(spots), oneIn(2) ? between(1, 5000) : between(50, 400), between(0, 3));
        }
        for (int i = 0; i < plain.now.works.size(); i++) {
            if (oneIn(2)) {
                begins(i, oneIn(2), between(1, 100));
            }
        }
        for (int w = 0; w < plain.now.wires.size(); w++) {
            if (oneIn(2)) {
                tree(w, between(0, 900));
            }
        }
        cool(oneIn(2) ? between(0, 60) : 100);
    }

    private void oneCall() {
        int kind = below(100);
        if (kind < 22) {
            goes();
        } else if (kind < 45) {
            byHand();
        } else if (kind < 50) {
            giveRules();
        } else if (kind < 53) {
            check();
        } else if (kind < 75) {
            look();
        } else if (kind < 80) {
            screens();
        } else if (kind < 84) {
            played();
        } else if (kind < 86) {
            cuts();
        } else if (kind < 95) {
            clocks();
        } else if (kind < 97) {
            again();
        } else if (kind < 98) {
            wrongTold();
        } else {
            count();
        }
    }

    private int spotNumber() {
        return oneIn(15) ? between(-1, 8) : below(Math.max(1, plain.now.spots.size()));
    }

    private int wireNumber() {
        return oneIn(15) ? between(-1, 14) : below(Math.max(1, plain.now.wires.size()));
    }

    private int worksNumber() {
        return oneIn(15) ? between(-1, 9) : below(Math.max(1, plain.now.works.size()));
    }

    private void spot(int land, int load, int rank) {
        due("spot(" + land + ", " + load + ", " + rank + ")", x.spot(land, load, rank), plain.spot(land, load, rank));
    }

    private void wire(int a, int b, int ease, int limit, int room) {
        due("wire(" + a + ", " + b + ", " + ease + ", " + limit + ", " + room + ")",
                x.wire(a, b, ease, limit, room), plain.wire(a, b, ease, limit, room));
    }

    private void works(int spot, int most, int price) {
        due("works(" + spot + ", " + most + ", " + price + ")", x.works(spot, most, price),
                plain.works(spot, most, price));
    }

    private void begins(int k, boolean alone, int minutes) {
        due("begins(" + k + ", " + alone + ", " + minutes + ")", x.begins(k, alone, minutes),
                plain.begins(k, alone, minutes));
    }

    private void tree(int w, int n) {
        due("tree(" + w + ", " + n + ")", x.tree(w, n), plain.tree(w, n));
    }

    private void cool(int n) {
        due("cool(" + n + ")", x.cool(n), plain.cool(n));
    }

    private void goes() {
        int times = oneIn(6) ? between(2, 12) : 1;
        for (int i = 0; i < times; i++) {
            int before = plain.events.size();
            due("goes()", x.goes(), plain.goes());
            for (int e = before; e < plain.events.size(); e++) {
                for (int what = 0; what < 4; what++) {
                    due("event(" + e + ", " + what + ")", x.event(e, what), plain.event(e, what));
                }
            }
        }
    }

    private void byHand() {
        int w = wireNumber();
        int k = worksNumber();
        int s = spotNumber();
        boolean is = !oneIn(3);
        int load = oneIn(20) ? between(-1, 2001) : between(0, 150);
        switch (below(8)) {
            case 0: tree(w, oneIn(20) ? between(-1, 100001) : between(0, 1200)); break;
            case 1: cool(oneIn(10) ? between(-1, 1001) : between(0, 80)); break;
            case 2: due("turn(" + w + ", " + is + ")", x.turn(w, is), plain.turn(w, is)); break;
            case 3: due("run(" + k + ", " + is + ")", x.run(k, is), plain.run(k, is)); break;
            case 4: due("shed(" + s + ", " + !is + ")", x.shed(s, !is), plain.shed(s, !is)); break;
            case 5: due("load(" + s + ", " + load + ")", x.load(s, load), plain.load(s, load)); break;
            default: mendAll(is);
        }
    }

    private void mendAll(boolean on) {
        for (int w = -1; w <= plain.now.wires.size(); w++) {
            due("mend(" + w + ")", x.mend(w), plain.mend(w));
            if (on && oneIn(2)) {
                due("turn(" + w + ", true)", x.turn(w, true), plain.turn(w, true));
            }
        }
    }

    // ---- RULES ----

    private void giveRules() {
        StringBuilder text = new StringBuilder();
        int clauses = oneIn(10) ? between(10, 14) : between(1, 3);
        for (int i = 0; i < clauses; i++) {
            boolean wires = !oneIn(3);
            text.append(i > 0 ? ";" : "").append(wires ? "t(" : "o(");
            if (clauses > 5) {
                usual(text, wires);
            } else {
                condition(text, wires, 2);
            }
            text.append(")");
        }
        if (oneIn(3)) {
            int at = below(text.length());
            String signs = "()[]!&|<>=+-*/%;to0123456789mikrdnflwgx \u00e9";
            char other = signs.charAt(below(signs.length()));
            switch (below(3)) {
                case 0: text.setCharAt(at, other); break;
                case 1: text.insert(at, other); break;
                default: text.deleteCharAt(at);
            }
        }
        if (text.length() == 0) {
            text.append("t");
        }
        feedAll(text.toString());
        int n = oneIn(20) ? between(-1, 170) : Math.min(text.length(), 160);
        due("rules(" + n + ") of " + text, x.rules(n), plain.rules(n));
        due("count(5)", x.count(5), plain.count(5));
        due("count(8)", x.count(8), plain.count(8));
    }

    private void feedAll(String text) {
        for (int from = 0; from < text.length(); from += 20) {
            int[] five = new int[5];
            for (int i = 0; i < 20; i++) {
                int sign = from + i < text.length() ? text.charAt(from + i) : 32;
                five[i / 4] = five[i / 4] << 8 | sign;
            }
            feed(five);
        }
    }

    private void feed(int[] five) {
        due("feed(...)", x.feed(five[0], five[1], five[2], five[3], five[4]), plain.feed(five));
    }

    private void condition(StringBuilder text, boolean wires, int deep) {
        int parts = oneIn(3) ? 2 : 1;
        for (int i = 0; i < parts; i++) {
            text.append(i > 0 ? "|" : "");
            int pieces = oneIn(3) ? 2 : 1;
            for (int j = 0; j < pieces; j++) {
                text.append(j > 0 ? "&" : "");
                piece(text, wires, deep);
            }
        }
    }

    private void piece(StringBuilder text, boolean wires, int deep) {
        while (oneIn(deep == 2 ? 4 : 7)) {
            text.append("!");
        }
        if (deep > 0 && oneIn(5)) {
            text.append("(");
            condition(text, wires, deep - 1);
            text.append(")");
            return;
        }
        if (oneIn(2)) {
            usual(text, wires);
            return;
        }
        sum(text, wires, deep);
        text.append("<>=".charAt(below(3)));
        sum(text, wires, deep);
    }

    private void usual(StringBuilder text, boolean wires) {
        switch (below(wires ? 5 : 4)) {
            case 0: text.append("i=").append(below(6)); break;
            case 1: text.append("n>").append(below(2)); break;
            case 2: text.append(wires ? "f/100>l" : "g*100/x>").append(wires ? "" : below(100)); break;
            case 3: text.append("r<").append(below(60)); break;
            default: text.append("w>").append(below(700));
        }
    }

    private void sum(StringBuilder text, boolean wires, int deep) {
        int factors = between(1, 3);
        for (int i = 0; i < factors; i++) {
            if (i > 0) {
                text.append("+-*/%".charAt(below(5)));
            }
            if (deep > 0 && oneIn(6)) {
                text.append("[");
                sum(text, wires, deep - 1);
                text.append("]");
            } else if (oneIn(2)) {
                text.append(oneIn(10) ? between(0, 9999999) : between(0, 120));
            } else {
                String letters = oneIn(60) ? "mikrdnflwgx" : wires ? "mikrdnflw" : "mikrdngx";
                text.append(letters.charAt(below(letters.length())));
            }
        }
    }

    private void check() {
        int n = oneIn(3) ? between(-1, 17) : plain.now.wires.size();
        int[] five = new int[5];
        int many = 3 * Math.max(0, n);
        int odd = oneIn(2) ? below(Math.max(1, many)) : -1;
        for (int i = 0; i < many; i++) {
            int w = Math.min(i / 3, Math.max(0, plain.now.wires.size() - 1));
            int number = i % 3 == 0 ? i / 3 : plain.wireIs(w, i % 3 - 1);
            five[i % 5] = i == odd ? number ^ 1 << below(32) : number;
            if (i % 5 == 4 || i == many - 1) {
                feed(five);
            }
        }
        int asked = oneIn(10) ? between(-1, 17) : n;
        due("check(" + asked + ")", x.check(asked), plain.check(asked));
        due("count(8)", x.count(8), plain.count(8));
        if (plain.tape.length > 120) {
            due("check(0)", x.check(0), plain.check(0));
        }
    }

    private void look() {
        int w = wireNumber();
        int k = worksNumber();
        int s = spotNumber();
        int e = below(plain.events.size() + 2) - 1;
        int what = between(-1, 5);
        due("flow(" + w + ")", x.flow(w), plain.flow(w));
        due("wireIs(" + w + ", " + what + ")", x.wireIs(w, what), plain.wireIs(w, what));
        due("worksAre(" + k + ", " + what + ")", x.worksAre(k, what), plain.worksAre(k, what));
        due("worksAre(" + k + ", 1)", x.worksAre(k, 1), plain.worksAre(k, 1));
        due("spotIs(" + s + ", " + what + ")", x.spotIs(s, what), plain.spotIs(s, what));
        due("event(" + e + ", " + what + ")", x.event(e, what), plain.event(e, what));
        int m = between(-1, plain.now.minute);
        due("bear(" + m + ")", x.bear(m), plain.bear(m));
        due("firstBorne()", x.firstBorne(), plain.firstBorne());
    }

    private void screens() {
        int k = oneIn(15) ? between(-1, 4) : between(0, 3);
        boolean is = oneIn(2);
        due("stop(" + k + ", " + is + ")", x.stop(k, is), plain.stop(k, is));
        for (int land = -1; land <= 4; land++) {
            int w = wireNumber();
            int what = between(-1, 3);
            due("shown(" + land + ", " + w + ", " + what + ")", x.shown(land, w, what), plain.shown(land, w, what));
            due("sign(" + land + ")", x.sign(land), plain.sign(land));
        }
    }

    private void played() {
        int many = plain.now.spots.size();
        int m = oneIn(15) ? between(-1, plain.now.minute + 1) : between(0, plain.now.minute);
        int set = oneIn(15) ? between(-1, 256) : below(1 << many);
        boolean small = many <= 4;
        int minutes = oneIn(12) ? between(-1, 31) : between(1, 8);
        due("held(" + m + ", " + set + ", " + minutes + ")", x.held(m, set, minutes), plain.held(m, set, minutes));
        due("last(" + set + ", " + minutes + ")", x.last(set, minutes), plain.last(set, minutes));
        if (small || oneIn(20)) {
            due("least(" + m + ", " + minutes + ")", x.least(m, minutes), plain.least(m, minutes));
        }
    }

    /** All is lit and ON again, but trees are near: then it matters which are cut. */
    private void cuts() {
        if (oneIn(2)) {
            cool(between(0, 30));
        }
        for (int s = 0; s < plain.now.spots.size(); s++) {
            due("shed(" + s + ", false)", x.shed(s, false), plain.shed(s, false));
        }
        for (int k = 0; k < plain.now.works.size(); k++) {
            due("run(" + k + ", true)", x.run(k, true), plain.run(k, true));
        }
        for (int w = 0; w < plain.now.wires.size(); w++) {
            due("mend(" + w + ")", x.mend(w), plain.mend(w));
            due("turn(" + w + ", true)", x.turn(w, true), plain.turn(w, true));
            PlainNet.Wire v = plain.now.wires.get(w);
            if (oneIn(2)) {
                tree(w, oneIn(2) ? 0 : Math.max(0, v.room - v.warmth - between(0, 150)));
            }
            int n = oneIn(15) ? between(-1, 1001) : between(1, 4);
            due("cost(" + w + ", " + n + ")", x.cost(w, n), plain.cost(w, n));
        }
        if (oneIn(3)) {
            plainRules("t(0=1)");
        }
        int money = oneIn(15) ? between(-1, 10001) : between(0, 8);
        int minutes = oneIn(15) ? between(-1, 31) : between(1, plain.now.spots.size() > 5 ? 5 : 12);
        for (int what = -1; what <= 2; what++) {
            String call = "cut(" + money + ", " + minutes + ", " + what + ")";
            due(call, x.cut(money, minutes, what), plain.cut(money, minutes, what));
        }
    }

    private void plainRules(String text) {
        due("check(0)", x.check(0), plain.check(0));
        feedAll(text);
        due("rules of " + text, x.rules(text.length()), plain.rules(text.length()));
    }

    private void clocks() {
        int k = oneIn(15) ? between(-1, 4) : between(0, 3);
        int low = oneIn(15) ? between(-102, 102) : between(-4, 4);
        int high = oneIn(15) ? between(-1, 2) : low + between(0, 5);
        if (high - low > 7) {
            high = low + 1;
        }
        int many = plain.rows.size();
        int a = below(many + 2) - 1;
        int b = below(many + 2) - 1;
        switch (below(5)) {
            case 0:
                due("clock(" + k + ", " + low + ", " + high + ")", x.clock(k, low, high), plain.clock(k, low, high));
                break;
            case 1:
                int time = oneIn(15) ? between(-1, 10000) : 100 + between(0, 9) + many;
                due("row(" + k + ", " + time + ")", x.row(k, time), plain.row(k, time));
                break;
            case 2:
                int first = oneIn(8) ? a : Math.min(a, b);
                int second = oneIn(8) ? b : Math.max(a, b);
                due("before(" + first + ", " + second + ")", x.before(first, second), plain.before(first, second));
                break;
            default:
                due("order(" + a + ", " + b + ")", x.order(a, b), plain.order(a, b));
        }
    }

    private void again() {
        int k = worksNumber();
        int minutes = oneIn(10) ? between(0, 101) : between(1, 100);
        if (oneIn(2)) {
            begins(k, !oneIn(3), minutes);
        }
        if (plain.now.works.size() <= 6) {
            for (int what = -2; what <= plain.now.works.size(); what++) {
                due("again(" + what + ")", x.again(what), plain.again(what));
            }
        }
    }

    private void wrongTold() {
        spot(between(-1, 4), between(-1, 2001), between(-1, 10));
        wire(spotNumber(), spotNumber(), between(0, 4), between(0, 5001), between(0, 100001));
        works(spotNumber(), between(0, 5001), between(-1, 100));
    }

    private void count() {
        for (int what = -2; what <= 35; what++) {
            due("count(" + what + ")", x.count(what), plain.count(what));
        }
    }
}
