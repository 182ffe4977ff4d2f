/** Promises 5 to 11, sentence by sentence: what is done by hand, at its least and greatest, and what is refused. */
public final class EdgesByHandTest {
    private static final int ON = 0;
    private static final int OFF = 1;
    private static final int TRIPPED = 2;
    private static final int DOWN = 3;

    public static void main(String[] args) {
        tree();
        noTreeNeverDown();
        cool();
        turnEach();
        turnNoSuchOne();
        run();
        runWhatRulesTookOff();
        shed();
        load();
        mendEach();
        noEvents();
        Due.end();
    }

    /** At NOW 1: wire 0 ON, 1 OFF, 2 TRIPPED, 3 DOWN; works 0 ON, 1 OFF by RULES; spot 2 SHED. */
    static SaggingNet oneOfEach() {
        SaggingNet x = new SaggingNet();
        x.spot(0, 0, 9);
        x.spot(1, 40, 9);
        x.spot(2, 5, 0);
        x.works(0, 100, 0);
        x.works(0, 100, 1);
        for (int w = 0; w < 4; w++) {
            x.wire(0, 1, 1, 100, w == 3 ? 1 : 1000);
        }
        x.turn(1, false);
        x.tree(3, 1);
        Due.rules(x, "t(i=2&m=0);o(i=1&m=0)");
        Due.due("shed, down, tripped, off", x.goes(), 4);
        for (int w = 0; w < 4; w++) {
            Due.due("wire " + w, x.wireIs(w, 0), w);
        }
        Due.due("works 1", x.worksAre(1, 0), 0);
        Due.due("spot 2", x.spotIs(2, 1), 1);
        return x;
    }

    /** The TREE of WIRE w (0 to 100000): true; false: no such ones. */
    private static void tree() {
        SaggingNet x = oneOfEach();
        Due.says("tree of wire", w -> x.tree(w, 5), false, Due.outside(0, 3));
        Due.says("tree so high", n -> x.tree(0, n), false, Due.outside(0, 100000));
        Due.due("as it was", x.wireIs(0, 2), 0);
        for (int w = 0; w < 4; w++) {
            Due.due("the greatest of " + w, x.tree(w, 100000), true);
            Due.due("it is", x.wireIs(w, 2), 100000);
            Due.due("the least of " + w, x.tree(w, 0), true);
            Due.due("it is", x.wireIs(w, 2), 0);
            Due.due("the same again", x.tree(w, 0), true);
            Due.due("how it is stays", x.wireIs(w, 0), w);
        }
    }

    /** TREE 0: never (nor when it was one and is 0 again). */
    private static void noTreeNeverDown() {
        SaggingNet x = ByHandTest.twoSpots();
        x.cool(0);
        x.tree(0, 1000);
        x.tree(0, 0);
        for (int m = 0; m < 9; m++) {
            Due.due("nothing at " + m, x.goes(), 0);
        }
        Due.due("WARMTH is above its ROOM", x.wireIs(0, 1), 1125);
        x.tree(0, 1);
        Due.due("with the least TREE it is", x.goes(), 1);
    }

    /** COOL is n (0 to 1000): true; false: no such number. */
    private static void cool() {
        SaggingNet x = new SaggingNet();
        Due.says("cool", x::cool, false, Due.outside(0, 1000));
        Due.due("100 at first", x.count(9), 100);
        Due.due("the least", x.cool(0), true);
        Due.due("it is", x.count(9), 0);
        Due.due("the greatest", x.cool(1000), true);
        Due.due("it is", x.count(9), 1000);
        Due.says("cool", x::cool, false, Due.outside(0, 1000));
        Due.due("it stays", x.count(9), 1000);
        Due.due("the same again", x.cool(1000), true);
    }

    /** false: it is DOWN, it is ON already (or is not ON). */
    private static void turnEach() {
        SaggingNet x = oneOfEach();
        Due.due("ON: not on", x.turn(0, true), false);
        Due.due("OFF: not off", x.turn(1, false), false);
        Due.due("TRIPPED: not off", x.turn(2, false), false);
        Due.due("DOWN: not off", x.turn(3, false), false);
        Due.due("DOWN: not on", x.turn(3, true), false);
        for (int w = 0; w < 4; w++) {
            Due.due("as it was: " + w, x.wireIs(w, 0), w);
        }
        Due.due("ON: off", x.turn(0, false), true);
        Due.due("is OFF", x.wireIs(0, 0), OFF);
        Due.due("OFF: on", x.turn(1, true), true);
        Due.due("is ON", x.wireIs(1, 0), ON);
        Due.due("TRIPPED: on", x.turn(2, true), true);
        Due.due("is ON", x.wireIs(2, 0), ON);
        Due.due("off again", x.turn(2, false), true);
        Due.due("is OFF, not TRIPPED", x.wireIs(2, 0), OFF);
    }

    private static void turnNoSuchOne() {
        SaggingNet x = oneOfEach();
        Due.says("turn on", w -> x.turn(w, true), false, Due.outside(0, 3));
        Due.says("turn off", w -> x.turn(w, false), false, Due.outside(0, 3));
        for (int w = 0; w < 4; w++) {
            Due.due("as it was: " + w, x.wireIs(w, 0), w);
        }
    }

    /** WORKS k is ON (or OFF): true; false: no such one, it is so. */
    private static void run() {
        SaggingNet x = new SaggingNet();
        x.spot(0, 0, 0);
        for (int k = 0; k < 9; k++) {
            x.works(0, 10, 0);
        }
        Due.says("run", k -> x.run(k, true), false, Due.outside(0, 8));
        Due.says("stop", k -> x.run(k, false), false, Due.outside(0, 8));
        for (int k = 0; k < 9; k++) {
            Due.due("on already " + k, x.run(k, true), false);
            Due.due("off " + k, x.run(k, false), true);
            Due.due("it is", x.worksAre(k, 0), 0);
            Due.due("off already " + k, x.run(k, false), false);
            Due.due("what is left", x.spotIs(0, 4), 80 - 10 * k);
        }
        Due.due("on", x.run(8, true), true);
        Due.due("it is", x.worksAre(8, 0), 1);
        Due.due("another is not", x.worksAre(7, 0), 0);
    }

    private static void runWhatRulesTookOff() {
        SaggingNet x = oneOfEach();
        Due.due("off already", x.run(1, false), false);
        Due.due("on", x.run(1, true), true);
        Due.due("it is", x.worksAre(1, 0), 1);
        Due.due("on already", x.run(1, true), false);
    }

    /** SPOT s is SHED (or LIT): true; false: no such one, it is so. */
    private static void shed() {
        SaggingNet x = oneOfEach();
        Due.says("shed", s -> x.shed(s, true), false, Due.outside(0, 2));
        Due.says("light", s -> x.shed(s, false), false, Due.outside(0, 2));
        Due.due("LIT: not lit", x.shed(1, false), false);
        Due.due("LIT: shed", x.shed(1, true), true);
        Due.due("it is", x.spotIs(1, 1), 1);
        Due.due("SHED: not shed", x.shed(1, true), false);
        Due.due("without a LOAD: shed as well", x.shed(0, true), true);
        Due.due("it is", x.spotIs(0, 1), 1);
        Due.due("SHED by itself: not shed", x.shed(2, true), false);
        Due.due("SHED by itself: lit", x.shed(2, false), true);
        Due.due("not SHED any more", x.spotIs(2, 1), 0);
        Due.due("but it would be, AS IT STANDS", x.spotIs(2, 2), 1);
        Due.due("LOADS that are SHED", x.count(10), 40);
        SaggingNet y = new SaggingNet();
        for (int s = 0; s < 8; s++) {
            y.spot(0, 1, 0);
        }
        Due.says("shed of eight", s -> y.shed(s, true), false, Due.outside(0, 7));
        Due.says("each of eight", s -> y.shed(s, true), true, 0, 1, 2, 3, 4, 5, 6, 7);
        Due.due("all", y.count(10), 8);
        Due.says("lit again", s -> y.shed(s, false), true, 7, 6, 5, 4, 3, 2, 1, 0);
        Due.due("none", y.count(10), 0);
    }

    /** The LOAD of SPOT s (0 to 2000): true; false: no such ones. */
    private static void load() {
        SaggingNet x = oneOfEach();
        Due.says("load of spot", s -> x.load(s, 1), false, Due.outside(0, 2));
        Due.says("load so great", n -> x.load(1, n), false, Due.outside(0, 2000));
        Due.due("as it was", x.spotIs(1, 0), 40);
        Due.due("the greatest", x.load(1, 2000), true);
        Due.due("it is", x.spotIs(1, 0), 2000);
        Due.due("the least", x.load(1, 0), true);
        Due.due("it is", x.spotIs(1, 0), 0);
        Due.due("of what is SHED", x.load(2, 7), true);
        Due.due("it is still SHED", x.spotIs(2, 1), 1);
        Due.due("with that LOAD", x.count(10), 7);
    }

    /** WIRE w is MENDED (OFF): true; false: no such one, it is not DOWN. */
    private static void mendEach() {
        SaggingNet x = oneOfEach();
        Due.says("mend", x::mend, false, Due.outside(0, 3));
        Due.says("not DOWN", x::mend, false, ON, OFF, TRIPPED);
        for (int w = 0; w < 4; w++) {
            Due.due("as it was: " + w, x.wireIs(w, 0), w);
        }
        Due.due("DOWN", x.mend(DOWN), true);
        Due.due("is OFF", x.wireIs(3, 0), OFF);
        Due.due("not twice", x.mend(3), false);
        Due.due("it can be ON then", x.turn(3, true), true);
        Due.due("is ON", x.wireIs(3, 0), ON);
    }

    /** BY HAND: no EVENTS. */
    private static void noEvents() {
        SaggingNet x = oneOfEach();
        int before = x.count(4);
        x.turn(0, false);
        x.turn(1, true);
        x.run(0, false);
        x.shed(1, true);
        x.load(1, 0);
        x.tree(1, 100000);
        x.mend(3);
        Due.due("none came", x.count(4), before);
        Due.due("there is none behind", x.event(before, 0), -1);
    }
}
