import java.util.Map;

/**
 * A call that is refused (NONE, false) changes nothing but the tape, where it is told: of two like nets one
 * is refused all that can be, and then both must answer the same. So it is with what only asks.
 */
public final class RefusedTest {
    private static final int LEAST = Integer.MIN_VALUE;
    private static final int MOST = Integer.MAX_VALUE;

    interface Calls {
        void on(SaggingNet x);
    }

    public static void main(String[] args) {
        Calls[] nets = {x -> { }, RefusedTest::told, RefusedTest::later};
        for (Calls net : nets) {
            alike(net, x -> { });
            alike(net, RefusedTest::tellings);
            alike(net, RefusedTest::wires);
            alike(net, RefusedTest::spotsAndWorks);
            alike(net, RefusedTest::tapes);
            alike(net, RefusedTest::screens);
            alike(net, RefusedTest::rowsAndClocks);
            alike(net, RefusedTest::beginnings);
            alike(net, RefusedTest::questions);
            alike(net, Look::at);
            alike(net, RefusedTest::plays);
        }
        alike(RefusedTest::full, RefusedTest::oneMoreOfAll);
        alike(RefusedTest::fullOfRows, RefusedTest::oneMoreRow);
        alike(RefusedTest::fullOfTape, x -> none("feed", x.feed(1, 2, 3, 4, 5)));
        atTheEnd();
        texts();
        Due.end();
    }

    private static void alike(Calls net, Calls refused) {
        SaggingNet one = new SaggingNet();
        SaggingNet other = new SaggingNet();
        net.on(one);
        net.on(other);
        refused.on(other);
        compare(one, other);
        Due.due("the tape's text", other.rules(6), one.rules(6));
        for (int i = 0; i < 2; i++) {
            Due.due("a minute", other.goes(), one.goes());
        }
        for (int what = 0; what <= 10; what++) {
            Due.due("then count " + what, other.count(what), one.count(what));
        }
        for (int w = 0; w < one.count(2); w++) {
            Due.due("then WARMTH of " + w, other.wireIs(w, 1), one.wireIs(w, 1));
            Due.due("then wire " + w, other.wireIs(w, 0), one.wireIs(w, 0));
        }
    }

    private static void compare(SaggingNet one, SaggingNet other) {
        Map<String, Long> before = Look.at(one);
        Map<String, Long> after = Look.at(other);
        Due.due("as much to see", after.size(), before.size());
        for (Map.Entry<String, Long> entry : before.entrySet()) {
            Due.due(entry.getKey(), after.getOrDefault(entry.getKey(), Long.MIN_VALUE), entry.getValue());
        }
    }

    /** Three SPOTS, four WIRES, two WORKS; one of all that can be; two ROWS; a TEXT on the tape. */
    private static void told(SaggingNet x) {
        x.spot(0, 5, 9);
        x.spot(1, 40, 8);
        x.spot(2, 5, 0);
        x.works(0, 60, 0);
        x.works(0, 30, 1);
        for (int w = 0; w < 4; w++) {
            x.wire(0, 1, 1, 20, w == 3 ? 1 : 300);
        }
        x.turn(1, false);
        x.tree(3, 1);
        x.tree(0, 90);
        x.cool(20);
        x.cost(0, 2);
        x.begins(1, true, 20);
        x.clock(1, 1, 3);
        x.row(0, 5);
        x.row(1, 6);
        x.before(0, 1);
        Due.rules(x, "t(i=2&m=0);o(i=1&m=0)");
        Due.feedAll(x, "t(m=2)");
    }

    /** The same some MINUTES later: OFF, TRIPPED, DOWN, SHED, a SCREEN STOPPED, one with a SIGN. */
    private static void later(SaggingNet x) {
        told(x);
        x.goes();
        x.stop(0, true);
        x.stop(3, true);
        x.load(1, 30);
        x.goes();
        x.run(1, true);
        x.shed(0, true);
    }

    private static void no(String call, boolean got) {
        Due.due(call, got, false);
    }

    private static void none(String call, long got) {
        Due.due(call, got, -1);
    }

    private static void tellings(SaggingNet x) {
        none("spot", x.spot(4, 1, 1));
        none("spot", x.spot(1, 2001, 1));
        none("spot", x.spot(1, 1, 10));
        none("spot", x.spot(LEAST, MOST, LEAST));
        none("wire", x.wire(0, 8, 1, 1, 1));
        none("wire", x.wire(-1, 0, 1, 1, 1));
        none("wire", x.wire(1, 1, 1, 1, 1));
        none("wire", x.wire(0, 1, 4, 1, 1));
        none("wire", x.wire(0, 1, 1, 5001, 1));
        none("wire", x.wire(0, 1, 1, 1, 0));
        none("works", x.works(8, 1, 1));
        none("works", x.works(0, 0, 1));
        none("works", x.works(0, 1, 100));
        if (x.count(0) > 0) {
            none("spot later", x.spot(0, 1, 1));
            none("wire later", x.wire(0, 1, 1, 1, 1));
            none("works later", x.works(0, 1, 1));
        }
    }

    private static void wires(SaggingNet x) {
        int[] noWires = {-1, x.count(2), 14, LEAST, MOST};
        for (int w : noWires) {
            no("tree", x.tree(w, 5));
            no("turn on", x.turn(w, true));
            no("turn off", x.turn(w, false));
            no("mend", x.mend(w));
            no("cost", x.cost(w, 5));
        }
        no("tree", x.tree(0, -1));
        no("tree", x.tree(0, 100001));
        no("cost", x.cost(0, 0));
        no("cost", x.cost(0, 1001));
        no("cool", x.cool(-1));
        no("cool", x.cool(1001));
        for (int w = 0; w < x.count(2); w++) {
            int is = x.wireIs(w, 0);
            no("turn as it is", x.turn(w, is == 0));
            no("mend", is != 3 && x.mend(w));
            no("turn DOWN on", is == 3 && x.turn(w, true));
        }
    }

    private static void spotsAndWorks(SaggingNet x) {
        int[] noSpots = {-1, x.count(1), 8, LEAST, MOST};
        for (int s : noSpots) {
            no("shed", x.shed(s, true));
            no("light", x.shed(s, false));
            no("load", x.load(s, 5));
        }
        no("load", x.load(0, -1));
        no("load", x.load(0, 2001));
        for (int s = 0; s < x.count(1); s++) {
            no("shed as it is", x.shed(s, x.spotIs(s, 1) == 1));
        }
        int[] noWorks = {-1, x.count(3), 9, LEAST, MOST};
        for (int k : noWorks) {
            no("run", x.run(k, true));
            no("stop", x.run(k, false));
            no("begins", x.begins(k, true, 5));
        }
        for (int k = 0; k < x.count(3); k++) {
            no("run as it is", x.run(k, x.worksAre(k, 0) == 1));
        }
    }

    /** The tape stays. */
    private static void tapes(SaggingNet x) {
        int[] lengths = {0, -1, x.count(8) + 1, 161, 200, LEAST, MOST};
        for (int n : lengths) {
            none("rules", x.rules(n));
        }
        int[] threes = {-1, x.count(8) / 12 + 1, 17, LEAST, MOST, 357913942};
        for (int n : threes) {
            Due.due("check", x.check(n), -2);
        }
    }

    private static void screens(SaggingNet x) {
        int[] noLands = {-1, 4, LEAST, MOST};
        for (int k : noLands) {
            no("stop", x.stop(k, true));
            no("stop no more", x.stop(k, false));
        }
        boolean later = x.count(0) > 0;
        for (int k = 0; k < 4; k++) {
            no("stop as it is", x.stop(k, later && k % 3 == 0));
        }
    }

    private static void rowsAndClocks(SaggingNet x) {
        no("clock", x.clock(-1, 0, 0));
        no("clock", x.clock(4, 0, 0));
        no("clock", x.clock(0, 1, 0));
        no("clock", x.clock(0, -101, 0));
        no("clock", x.clock(0, 0, 101));
        none("row", x.row(-1, 0));
        none("row", x.row(4, 0));
        none("row", x.row(0, -1));
        none("row", x.row(0, 10000));
        no("before", x.before(0, 0));
        no("before", x.before(0, x.count(6)));
        no("before", x.before(-1, 0));
        no("before", x.before(LEAST, MOST));
    }

    private static void beginnings(SaggingNet x) {
        for (int k = 0; k < 9; k++) {
            no("begins", x.begins(k, true, 0));
            no("begins", x.begins(k, false, 101));
            no("begins", x.begins(k, false, LEAST));
        }
    }

    private static void questions(SaggingNet x) {
        none("wireIs", x.wireIs(0, 4));
        none("worksAre", x.worksAre(0, 2));
        none("spotIs", x.spotIs(0, 5));
        none("event", x.event(-1, 0));
        none("event", x.event(x.count(4), 3));
        none("bear", x.bear(x.count(0)));
        none("shown", x.shown(4, 0, 0));
        none("sign", x.sign(4));
        none("held", x.held(x.count(0) + 1, 0, 1));
        none("held", x.held(0, -1, 1));
        none("held", x.held(0, 0, 31));
        none("last", x.last(256, 1));
        none("last", x.last(0, 0));
        none("least", x.least(-1, 1));
        none("least", x.least(0, 31));
        none("order", x.order(-1, 0));
        none("cut", x.cut(-1, 1, 0));
        none("cut", x.cut(1, 31, 0));
        none("cut", x.cut(1, 1, 2));
        none("count", x.count(11));
        Due.due("flow", x.flow(14), -1000000000L);
    }

    /** Nothing of what is PLAYED stays, nor of what would be. */
    private static void plays(SaggingNet x) {
        int all = (1 << x.count(1)) - 1;
        for (int m = 0; m <= x.count(0); m++) {
            x.held(m, all, 30);
            x.held(m, 0, 30);
            x.least(m, 30);
        }
        x.last(all, 30);
        x.cut(10000, 30, 0);
        x.cut(10000, 30, 1);
        for (int e = 0; e < x.count(4); e++) {
            x.event(e, 3);
        }
        for (int w = 0; w < x.count(2); w++) {
            x.wireIs(w, 3);
        }
        for (int k = -1; k < x.count(3); k++) {
            x.again(k);
        }
    }

    /** 8 SPOTS, 14 WIRES, 9 WORKS. */
    private static void full(SaggingNet x) {
        for (int s = 0; s < 8; s++) {
            x.spot(s % 4, s, s);
        }
        for (int w = 0; w < 14; w++) {
            x.wire(w % 7, 7, 1, 5, 500);
        }
        for (int k = 0; k < 9; k++) {
            x.works(k % 8, 4, k);
        }
    }

    private static void oneMoreOfAll(SaggingNet x) {
        none("a ninth spot", x.spot(0, 1, 1));
        none("a fifteenth wire", x.wire(0, 1, 1, 1, 1));
        none("a tenth works", x.works(0, 1, 1));
    }

    /** 40 ROWS would be asked too often two by two: 3 of them, and 100 BEFORE ones. */
    private static void fullOfRows(SaggingNet x) {
        for (int i = 0; i < 3; i++) {
            x.row(0, i);
        }
        for (int i = 0; i < 100; i++) {
            x.before(i % 2, 2);
        }
    }

    private static void oneMoreRow(SaggingNet x) {
        no("a hundred and first", x.before(2, 0));
        no("and again", x.before(0, 1));
    }

    private static void fullOfTape(SaggingNet x) {
        told(x);
        x.check(0);
        Due.feedAll(x, "t(m=1)" + ";t(m=2)".repeat(27));
    }

    /** At 499 no MINUTE goes by: nothing warms, nothing comes, nothing is shown. */
    private static void atTheEnd() {
        SaggingNet x = ByHandTest.twoSpots();
        x.cool(120);
        for (int m = 0; m < 499; m++) {
            x.goes();
        }
        Due.rules(x, "t(1=1)");
        none("goes at 499", x.goes());
        Due.due("WARMTH", x.wireIs(0, 1), 499 * 5);
        Due.due("how it is", x.wireIs(0, 0), 0);
        Due.due("EVENTS", x.count(4), 0);
        Due.due("what is shown", x.shown(0, 0, 2), 498);
    }

    /** A TEXT with a FAULT: the one before stays, in all that it does; the tape is empty. */
    private static void texts() {
        String[] faults = {"x", "t(m=0);", "t(1234567=0)", "t(!!!!!!m=0)", "t(m=0);".repeat(12) + "o",
            "o(m>0);t(m>0);t(m>0"};
        for (String fault : faults) {
            SaggingNet one = new SaggingNet();
            SaggingNet other = new SaggingNet();
            later(one);
            later(other);
            one.check(0);
            other.check(0);
            Due.due("a fault of " + fault, Due.rules(other, fault) < -1, true);
            compare(one, other);
            Due.due("a minute", other.goes(), one.goes());
            compare(one, other);
        }
    }
}
