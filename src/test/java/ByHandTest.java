/** Promises 5 to 11: what is done by hand, and what is refused. */
public final class ByHandTest {
    public static void main(String[] args) {
        tree();
        cool();
        turn();
        run();
        shed();
        load();
        mend();
        noEvents();
        Due.end();
    }

    /** Spot 0 with works 0 (200) feeds spot 1 (50) by wire 0; all in lands 0 and 1. */
    static SaggingNet twoSpots() {
        SaggingNet x = new SaggingNet();
        x.spot(0, 100, 5);
        x.spot(1, 50, 3);
        x.works(0, 200, 1);
        x.wire(0, 1, 2, 40, 1000);
        return x;
    }

    private static void tree() {
        SaggingNet x = twoSpots();
        Due.due("tree of wire 1", x.tree(1, 5), false);
        Due.due("tree of wire -1", x.tree(-1, 5), false);
        Due.due("tree -1", x.tree(0, -1), false);
        Due.due("tree 100001", x.tree(0, 100001), false);
        Due.due("still none", x.wireIs(0, 2), 0);
        Due.due("tree 100000", x.tree(0, 100000), true);
        Due.due("it stands", x.wireIs(0, 2), 100000);
        Due.due("tree 0", x.tree(0, 0), true);
        Due.due("it is gone", x.wireIs(0, 2), 0);
    }

    private static void cool() {
        SaggingNet x = twoSpots();
        Due.due("cool -1", x.cool(-1), false);
        Due.due("cool 1001", x.cool(1001), false);
        Due.due("as it was", x.count(9), 100);
        Due.due("cool 1000", x.cool(1000), true);
        Due.due("cool is 1000", x.count(9), 1000);
        Due.due("cool 0", x.cool(0), true);
        x.goes();
        Due.due("nothing cools", x.wireIs(0, 1), 125);
        x.cool(1000);
        x.goes();
        Due.due("not below 0", x.wireIs(0, 1), 0);
    }

    private static void turn() {
        SaggingNet x = twoSpots();
        Due.due("no wire 1", x.turn(1, false), false);
        Due.due("no wire -1", x.turn(-1, false), false);
        Due.due("on already", x.turn(0, true), false);
        Due.due("off", x.turn(0, false), true);
        Due.due("it is off", x.wireIs(0, 0), 1);
        Due.due("off already", x.turn(0, false), false);
        Due.due("on", x.turn(0, true), true);
        Due.due("it is on", x.wireIs(0, 0), 0);
        Due.due("trip it", Due.rules(x, "t(m=0)"), 1);
        x.goes();
        Due.due("tripped", x.wireIs(0, 0), 2);
        Due.due("what tripped is not on", x.turn(0, false), false);
        Due.due("still tripped", x.wireIs(0, 0), 2);
        Due.due("on from tripped", x.turn(0, true), true);
        x.tree(0, 1000);
        x.goes();
        Due.due("down", x.wireIs(0, 0), 3);
        Due.due("down: not on", x.turn(0, true), false);
        Due.due("down: not off", x.turn(0, false), false);
        Due.due("still down", x.wireIs(0, 0), 3);
    }

    private static void run() {
        SaggingNet x = twoSpots();
        x.works(1, 7, 0);
        Due.due("no works 2", x.run(2, false), false);
        Due.due("no works -1", x.run(-1, false), false);
        Due.due("on already", x.run(1, true), false);
        Due.due("off", x.run(1, false), true);
        Due.due("it is off", x.worksAre(1, 0), 0);
        Due.due("the other is not", x.worksAre(0, 0), 1);
        Due.due("off already", x.run(1, false), false);
        Due.due("on", x.run(1, true), true);
        Due.due("it is on", x.worksAre(1, 0), 1);
    }

    private static void shed() {
        SaggingNet x = twoSpots();
        Due.due("no spot 2", x.shed(2, true), false);
        Due.due("no spot -1", x.shed(-1, true), false);
        Due.due("lit already", x.shed(1, false), false);
        Due.due("shed", x.shed(1, true), true);
        Due.due("it is", x.spotIs(1, 1), 1);
        Due.due("the other is not", x.spotIs(0, 1), 0);
        Due.due("its load stays", x.spotIs(1, 0), 50);
        Due.due("shed already", x.shed(1, true), false);
        Due.due("no flow to it", x.flow(0), 0);
        Due.due("lit", x.shed(1, false), true);
        Due.due("flow to it", x.flow(0), 5000);
    }

    private static void load() {
        SaggingNet x = twoSpots();
        Due.due("no spot 2", x.load(2, 1), false);
        Due.due("no spot -1", x.load(-1, 1), false);
        Due.due("load -1", x.load(0, -1), false);
        Due.due("load 2001", x.load(0, 2001), false);
        Due.due("as it was", x.spotIs(0, 0), 100);
        Due.due("load 2000", x.load(0, 2000), true);
        Due.due("it is", x.spotIs(0, 0), 2000);
        Due.due("load 0", x.load(1, 0), true);
        Due.due("none", x.spotIs(1, 0), 0);
    }

    private static void mend() {
        SaggingNet x = twoSpots();
        Due.due("no wire 1", x.mend(1), false);
        Due.due("no wire -1", x.mend(-1), false);
        Due.due("not down", x.mend(0), false);
        x.turn(0, false);
        Due.due("off is not down", x.mend(0), false);
        x.turn(0, true);
        x.tree(0, 1000);
        x.goes();
        int warmth = x.wireIs(0, 1);
        Due.due("mend", x.mend(0), true);
        Due.due("off then", x.wireIs(0, 0), 1);
        Due.due("as warm as before", x.wireIs(0, 1), warmth);
        Due.due("its tree stays", x.wireIs(0, 2), 1000);
        Due.due("not twice", x.mend(0), false);
    }

    private static void noEvents() {
        SaggingNet x = twoSpots();
        x.turn(0, false);
        x.run(0, false);
        x.shed(0, true);
        x.shed(1, true);
        Due.due("nothing by hand is an event", x.count(4), 0);
        Due.due("and none comes", x.goes(), 0);
        Due.due("at a later minute too", x.shed(0, false), true);
        Due.due("only what comes by itself", x.goes(), 1);
        Due.due("which is", x.event(0, 0), 0);
    }
}
