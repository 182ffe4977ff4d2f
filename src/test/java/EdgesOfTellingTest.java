/** Promises 1 to 4, sentence by sentence: what is too small, too large, full, or too late. */
public final class EdgesOfTellingTest {
    private static final long NO_FLOW = -1000000000L;

    public static void main(String[] args) {
        minuteZeroAndNothingTold();
        whatANewNetAnswers();
        newOnesShareNothing();
        noSuchSpots();
        eightSpotsAreThere();
        noSuchWires();
        oneSpotTwice();
        severalWiresBetweenTheSame();
        fourteenWiresAreThere();
        noSuchWorks();
        nineWorksAreThere();
        nowIsNotZero();
        nowIsStillZero();
        howTheyAreAtFirst();
        Due.end();
    }

    /** SaggingNet(): MINUTE 0; nothing told. */
    private static void minuteZeroAndNothingTold() {
        SaggingNet x = new SaggingNet();
        Due.each("count on nothing", x::count, 0, 0, 1, 2, 3, 4, 5, 6, 7, 8, 10);
        Due.due("COOL at first", x.count(9), 100);
        for (int what = 20; what < 34; what++) {
            Due.due("no cost " + what, x.count(what), -1);
        }
        Due.each("no event", e -> x.event(e, 0), -1, 0, 1, 399, 400);
        Due.each("no row", r -> x.order(r, r), -1, 0, 1, 39, 40);
        Due.each("no minute gone by", x::bear, -1, 0, 1, 498, 499);
        Due.due("nothing to be borne", x.firstBorne(), -1);
        Due.each("no text on the tape", x::rules, -1, 1, 20, 160);
        Due.each("no numbers on the tape", x::check, -2, 1, 2, 16);
    }

    private static void whatANewNetAnswers() {
        SaggingNet x = new SaggingNet();
        Due.each("flow", x::flow, NO_FLOW, 0, 13);
        Due.each("wireIs", what -> x.wireIs(0, what), -1, 0, 1, 2, 3);
        Due.each("worksAre", what -> x.worksAre(0, what), -1, 0, 1);
        Due.each("spotIs", what -> x.spotIs(0, what), -1, 0, 1, 2, 3, 4);
        Due.says("tree", w -> x.tree(w, 1), false, 0, 13);
        Due.says("turn", w -> x.turn(w, false), false, 0, 13);
        Due.says("run", k -> x.run(k, false), false, 0, 8);
        Due.says("shed", s -> x.shed(s, true), false, 0, 7);
        Due.says("load", s -> x.load(s, 1), false, 0, 7);
        Due.says("mend", x::mend, false, 0, 13);
        Due.says("cost", w -> x.cost(w, 1), false, 0, 13);
        Due.says("begins", k -> x.begins(k, true, 1), false, 0, 8);
        Due.says("before", r -> x.before(r, r + 1), false, 0, 1);
        Due.each("sign", x::sign, -1, 0, 1, 2, 3);
        Due.each("shown", k -> x.shown(k, 0, 0), -1, 0, 1, 2, 3);
        Due.says("no screen is stopped", k -> x.stop(k, false), false, 0, 1, 2, 3);
        Due.each("no orders of works", x::again, -2, -2, -1, 0, 1);
        Due.each("nothing comes", n -> x.held(0, 0, n), 1, 1, 30);
        Due.each("the last", n -> x.last(0, n), 0, 1, 30);
        Due.each("the least", n -> x.least(0, n), 0, 1, 30);
        Due.each("no set of no spots but the empty one", set -> x.held(0, set, 1), -1, 1, 2, 128, 255, 256);
        Due.each("the cut", what -> x.cut(10000, 30, what), 0, 0, 1);
        Due.due("no wires: right", x.check(0), -1);
        Due.due("a minute goes by all the same", x.goes(), 0);
    }

    private static void newOnesShareNothing() {
        SaggingNet x = ByHandTest.twoSpots();
        x.tree(0, 7);
        x.cool(1);
        x.cost(0, 9);
        x.begins(0, true, 7);
        x.clock(0, 5, 5);
        x.row(0, 3);
        x.row(1, 3);
        x.before(0, 1);
        x.stop(2, true);
        Due.rules(x, "t(1=1)");
        x.goes();
        x.feed(1, 2, 3, 4, 5);
        SaggingNet y = new SaggingNet();
        Due.each("count of the next one", y::count, 0, 0, 1, 2, 3, 4, 5, 6, 7, 8, 10);
        Due.due("its COOL", y.count(9), 100);
        Due.due("its SCREEN", y.stop(2, false), false);
        y.spot(0, 1, 1);
        y.spot(0, 1, 1);
        y.works(0, 9, 1);
        y.wire(0, 1, 1, 1, 1);
        Due.due("its TREE", y.wireIs(0, 2), 0);
        Due.due("its COST", y.count(20), 1);
        Due.due("its WORKS begin by none", y.again(-1), -2);
        Due.due("no RULES", y.goes(), 0);
        y.row(0, 3);
        y.row(1, 3);
        Due.due("its CLOCKS", y.order(0, 1), 2);
    }

    /** A SPOT: NONE: no such ones (LAND 0 to 3, LOAD 0 to 2000, RANK 0 to 9). */
    private static void noSuchSpots() {
        SaggingNet x = new SaggingNet();
        Due.each("land", land -> x.spot(land, 0, 0), -1, Due.outside(0, 3));
        Due.each("load", load -> x.spot(0, load, 0), -1, Due.outside(0, 2000));
        Due.each("rank", rank -> x.spot(0, 0, rank), -1, Due.outside(0, 9));
        Due.due("none is there", x.count(1), 0);
        Due.due("the least land", x.spot(0, 5, 5), 0);
        Due.due("the greatest land", x.spot(3, 5, 5), 1);
        Due.due("the least load", x.spot(1, 0, 5), 2);
        Due.due("the greatest load", x.spot(1, 2000, 5), 3);
        Due.due("the least rank", x.spot(1, 5, 0), 4);
        Due.due("the greatest rank", x.spot(1, 5, 9), 5);
        Due.due("they are there", x.count(1), 6);
        Due.due("with the least load", x.spotIs(2, 0), 0);
        Due.due("with the greatest load", x.spotIs(3, 0), 2000);
    }

    /** NONE: 8 are there. */
    private static void eightSpotsAreThere() {
        SaggingNet x = new SaggingNet();
        for (int s = 0; s < 8; s++) {
            Due.due("spot " + s, x.spot(s % 4, s, s), s);
        }
        Due.due("a ninth", x.spot(0, 0, 0), -1);
        Due.due("and again", x.spot(3, 2000, 9), -1);
        Due.due("eight", x.count(1), 8);
        Due.due("the eighth is as told", x.spotIs(7, 0), 7);
        Due.due("there is no spot 8", x.spotIs(8, 0), -1);
    }

    private static SaggingNet spots(int many) {
        SaggingNet x = new SaggingNet();
        for (int s = 0; s < many; s++) {
            x.spot(s % 4, 10, 5);
        }
        return x;
    }

    /** A WIRE: NONE: no such ones (SPOTS told; EASE 1 to 3, LIMIT 1 to 5000, ROOM 1 to 100000). */
    private static void noSuchWires() {
        Due.each("between no spots", b -> spots(0).wire(0, b, 1, 1, 1), -1, -1, 0, 1);
        SaggingNet x = spots(3);
        Due.each("a", a -> x.wire(a, 1, 2, 2, 2), -1, Due.outside(0, 2));
        Due.each("b", b -> x.wire(1, b, 2, 2, 2), -1, Due.outside(0, 2));
        Due.each("a of eight", a -> spots(8).wire(a, 1, 2, 2, 2), -1, Due.outside(0, 7));
        Due.each("ease", ease -> x.wire(0, 1, ease, 2, 2), -1, Due.outside(1, 3));
        Due.each("limit", limit -> x.wire(0, 1, 2, limit, 2), -1, Due.outside(1, 5000));
        Due.each("room", room -> x.wire(0, 1, 2, 2, room), -1, Due.outside(1, 100000));
        Due.due("none is there", x.count(2), 0);
        Due.due("the least ease", x.wire(0, 1, 1, 2, 2), 0);
        Due.due("the greatest ease", x.wire(0, 1, 3, 2, 2), 1);
        Due.due("the least limit", x.wire(0, 1, 2, 1, 2), 2);
        Due.due("the greatest limit", x.wire(0, 1, 2, 5000, 2), 3);
        Due.due("the least room", x.wire(0, 1, 2, 2, 1), 4);
        Due.due("the greatest room", x.wire(0, 1, 2, 2, 100000), 5);
        Due.due("the lowest and the highest spot", x.wire(0, 2, 2, 2, 2), 6);
        Due.due("the other way", x.wire(2, 0, 2, 2, 2), 7);
        Due.due("they are there", x.count(2), 8);
    }

    /** NONE: one SPOT twice. */
    private static void oneSpotTwice() {
        SaggingNet x = spots(8);
        Due.each("one twice", s -> x.wire(s, s, 1, 1, 1), -1, 0, 1, 2, 3, 4, 5, 6, 7);
        Due.due("none is there", x.count(2), 0);
    }

    /** Several between the same are allowed. */
    private static void severalWiresBetweenTheSame() {
        SaggingNet x = spots(2);
        x.works(0, 50, 0);
        for (int w = 0; w < 5; w++) {
            Due.due("wire " + w, x.wire(0, 1, 1, 50, 50), w);
        }
        // 10 by five like ones.
        Due.each("each carries its part", x::flow, 200, 0, 1, 2, 3, 4);
    }

    /** NONE: 14 are there. */
    private static void fourteenWiresAreThere() {
        SaggingNet x = spots(4);
        for (int w = 0; w < 14; w++) {
            Due.due("wire " + w, x.wire(w % 3, 3, 1, w + 1, 1), w);
        }
        Due.due("a fifteenth", x.wire(0, 1, 1, 1, 1), -1);
        Due.due("and again", x.wire(1, 2, 3, 5000, 100000), -1);
        Due.due("fourteen", x.count(2), 14);
        Due.due("there is no wire 14", x.wireIs(14, 0), -1);
        Due.due("no flow of it", x.flow(14), NO_FLOW);
        Due.due("no cost of it", x.count(34), -1);
    }

    /** A WORKS: NONE: no such ones (a SPOT told; MOST 1 to 5000, a PRICE 0 to 99). */
    private static void noSuchWorks() {
        Due.each("at no spot", s -> spots(0).works(s, 1, 1), -1, -1, 0, 1);
        SaggingNet x = spots(2);
        Due.each("spot", s -> x.works(s, 5, 5), -1, Due.outside(0, 1));
        Due.each("spot of eight", s -> spots(8).works(s, 5, 5), -1, Due.outside(0, 7));
        Due.each("most", most -> x.works(0, most, 5), -1, Due.outside(1, 5000));
        Due.each("price", price -> x.works(0, 5, price), -1, Due.outside(0, 99));
        Due.due("none is there", x.count(3), 0);
        Due.due("the least most", x.works(0, 1, 5), 0);
        Due.due("the greatest most", x.works(1, 5000, 5), 1);
        Due.due("the least price", x.works(0, 5, 0), 2);
        Due.due("the greatest price", x.works(0, 5, 99), 3);
        Due.due("they are there", x.count(3), 4);
        Due.due("reserve: the least of both", x.spotIs(0, 4), 1 + 5 + 5 - 10);
        Due.due("reserve: the greatest", x.spotIs(1, 4), 5000 - 10);
    }

    /** NONE: 9 are there. */
    private static void nineWorksAreThere() {
        SaggingNet x = spots(3);
        for (int k = 0; k < 9; k++) {
            Due.due("works " + k, x.works(k % 3, k + 1, k), k);
        }
        Due.due("a tenth", x.works(0, 1, 1), -1);
        Due.due("and again", x.works(2, 5000, 99), -1);
        Due.due("nine", x.count(3), 9);
        Due.due("there is no works 9", x.worksAre(9, 0), -1);
        Due.due("its most is not there", x.spotIs(2, 4), 3 + 6 + 9 - 10);
    }

    /** NONE: NOW is not 0. */
    private static void nowIsNotZero() {
        SaggingNet x = spots(2);
        x.goes();
        Due.due("spot at 1", x.spot(0, 0, 0), -1);
        Due.due("wire at 1", x.wire(0, 1, 1, 1, 1), -1);
        Due.due("works at 1", x.works(0, 1, 1), -1);
        x.goes();
        Due.due("spot at 2", x.spot(0, 0, 0), -1);
        Due.due("wire at 2", x.wire(0, 1, 1, 1, 1), -1);
        Due.due("works at 2", x.works(0, 1, 1), -1);
        Due.each("as many as at 0", x::count, 0, 2, 3);
        Due.due("spots", x.count(1), 2);
    }

    /** They are told while NOW is 0: whatever else was done in it. */
    private static void nowIsStillZero() {
        SaggingNet x = spots(2);
        x.works(0, 9, 0);
        x.wire(0, 1, 1, 1, 1);
        x.turn(0, false);
        x.shed(1, true);
        x.load(0, 3);
        x.held(0, 0, 30);
        x.flow(0);
        Due.due("one more spot", x.spot(2, 4, 1), 2);
        Due.due("one more wire", x.wire(2, 0, 1, 5, 5), 1);
        Due.due("one more works", x.works(2, 9, 0), 1);
        Due.due("what was off is off", x.wireIs(0, 0), 1);
        Due.due("what was shed is shed", x.spotIs(1, 1), 1);
        Due.due("all in one island", x.spotIs(2, 3), 0);
    }

    /** TREE and WARMTH 0, ON, LIT, COST 1, WORKS ON, not ALONE. */
    private static void howTheyAreAtFirst() {
        SaggingNet x = spots(8);
        for (int w = 0; w < 14; w++) {
            x.wire(w % 7, 7, 1, 1, 1);
            Due.each("how it is, WARMTH and TREE of " + w, what -> x.wireIs(x.count(2) - 1, what), 0, 0, 1, 2);
            Due.due("cost of " + w, x.count(20 + w), 1);
        }
        for (int k = 0; k < 9; k++) {
            x.works(k % 8, 1, 1);
            Due.due("on " + k, x.worksAre(k, 0), 1);
        }
        Due.each("lit", s -> x.spotIs(s, 1), 0, 0, 1, 2, 3, 4, 5, 6, 7);
        Due.due("none can begin alone", x.again(-1), -2);
    }
}
