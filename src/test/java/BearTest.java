/** Promises 20 to 24: what CAN'T BE BORNE, and SCREENS. */
public final class BearTest {
    public static void main(String[] args) {
        exactly();
        byWhatWouldBeShed();
        kept();
        screens();
        sign();
        signByOnAlone();
        Due.end();
    }

    /** Two like wires carry a LOAD of 80; without one the other carries all. */
    private static SaggingNet twoWires(int limit) {
        SaggingNet x = new SaggingNet();
        x.spot(0, 0, 9);
        x.spot(1, 80, 9);
        x.spot(2, 0, 9);
        x.works(0, 100, 0);
        x.wire(0, 1, 1, limit, 100000);
        x.wire(0, 1, 1, 5000, 100000);
        x.wire(1, 2, 1, 1, 100000);
        return x;
    }

    private static void exactly() {
        SaggingNet x = twoWires(80);
        Due.due("just its limit is borne", x.wireIs(1, 3), 0);
        Due.due("the other one, too", x.wireIs(0, 3), 0);
        Due.due("and where nothing flows", x.wireIs(2, 3), 0);
        SaggingNet y = twoWires(79);
        Due.due("above the limit it can't be", y.wireIs(1, 3), 1);
        Due.due("of the narrow one it can", y.wireIs(0, 3), 0);
        y.turn(1, false);
        Due.due("not on: 0", y.wireIs(1, 3), 0);
        Due.due("its limit is passed, but it would be off: spot 1 shed", y.wireIs(0, 3), 1);
        y.load(1, 0);
        Due.due("nothing to lose", y.wireIs(0, 3), 0);
        // A flow of 40 and a third above 40: told in hundredths or not, it is above.
        SaggingNet z = new SaggingNet();
        z.spot(0, 0, 9);
        z.spot(0, 121, 9);
        z.works(0, 200, 0);
        z.wire(1, 0, 1, 40, 100000);
        z.wire(1, 0, 1, 41, 100000);
        z.wire(1, 0, 1, 41, 100000);
        z.wire(1, 0, 3, 200, 100000);
        z.turn(1, true);
        Due.due("without the strong one a third each", z.wireIs(3, 3), 1);
        Due.due("without another there are 24.2", z.wireIs(1, 3), 0);
    }

    private static void byWhatWouldBeShed() {
        SaggingNet x = new SaggingNet();
        x.spot(0, 10, 9);
        x.spot(0, 10, 5);
        x.spot(0, 10, 7);
        x.works(0, 20, 0);
        x.works(2, 9, 0);
        x.wire(0, 1, 1, 100, 100000);
        x.wire(1, 2, 1, 100, 100000);
        // 30 are one too many for 29: 1 is shed as it stands; without wire 1 it were 2 as well, with 9 alone.
        Due.due("spot 1 is shed as it stands", x.spotIs(1, 2), 1);
        Due.due("wire 1 would take spot 2", x.wireIs(1, 3), 1);
        // Without wire 0: spot 0 has 20; 1 and 2 have 9 for 20: both.
        Due.due("wire 0 as well", x.wireIs(0, 3), 1);
        x.works(2, 1, 0);
        Due.due("one more: all stand", x.spotIs(1, 2), 0);
        Due.due("wire 1: 0 and 1 have 20, 2 has 10", x.wireIs(1, 3), 0);
        Due.due("wire 0: 1 and 2 have 10", x.wireIs(0, 3), 1);
        x.shed(1, true);
        Due.due("what is shed already is no loss", x.wireIs(0, 3), 0);
    }

    private static void kept() {
        SaggingNet x = twoWires(79);
        Due.due("not gone by", x.bear(0), -1);
        Due.due("none gone by", x.firstBorne(), -1);
        x.load(1, 0);
        x.goes();
        x.load(1, 80);
        Due.due("only what went by counts", x.firstBorne(), -1);
        x.goes();
        x.load(1, 0);
        x.turn(0, false);
        x.goes();
        Due.due("bear(0)", x.bear(0), 0);
        Due.due("bear(1)", x.bear(1), 2);
        Due.due("bear(2)", x.bear(2), 0);
        Due.due("bear(3)", x.bear(3), -1);
        Due.due("bear(-1)", x.bear(-1), -1);
        Due.due("since", x.firstBorne(), 1);
    }

    private static void screens() {
        SaggingNet x = twoWires(79);
        Due.due("before the first: nothing", x.shown(0, 0, 0), -1);
        x.tree(1, 100000);
        x.goes();
        Due.due("ahead of its going down it was on", x.shown(0, 1, 0), 1);
        Due.due("its flow", x.shown(0, 1, 1), 4000);
        Due.due("the minute", x.shown(0, 1, 2), 0);
        Due.due("of both its lands", x.shown(1, 1, 1), 4000);
        Due.due("not of another", x.shown(2, 1, 1), -1);
        Due.due("wire 2 of land 2", x.shown(2, 2, 1), 0);
        Due.due("nor of land 0", x.shown(0, 2, 1), -1);
        Due.due("land 3 has none", x.shown(3, 2, 1), -1);
        Due.due("what 3", x.shown(0, 0, 3), -1);
        Due.due("what -1", x.shown(0, 0, -1), -1);
        Due.due("no land 4", x.shown(4, 0, 0), -1);
        Due.due("no land -1", x.shown(-1, 0, 0), -1);
        Due.due("no wire 3", x.shown(0, 3, 0), -1);
        Due.due("no wire -1", x.shown(0, -1, 0), -1);
        x.goes();
        Due.due("now it is down", x.shown(0, 1, 0), 0);
        Due.due("all by wire 0", x.shown(0, 0, 1), 8000);
        Due.due("in minute 1", x.shown(0, 0, 2), 1);
    }

    private static void sign() {
        SaggingNet x = twoWires(79);
        Due.due("stop no land 4", x.stop(4, true), false);
        Due.due("stop no land -1", x.stop(-1, true), false);
        Due.due("goes already", x.stop(2, false), false);
        Due.due("stop land 3 ahead of all", x.stop(3, true), true);
        Due.due("stopped already", x.stop(3, true), false);
        x.goes();
        Due.due("it shows nothing", x.sign(3), -1);
        Due.due("stop 0", x.stop(0, true), true);
        Due.due("stop 2", x.stop(2, true), true);
        Due.due("none yet", x.sign(0), -1);
        x.goes();
        Due.due("nothing is otherwise", x.sign(0), -1);
        x.load(1, 60);
        Due.due("not by asking", x.sign(0), -1);
        x.goes();
        x.load(1, 80);
        x.goes();
        Due.due("the sign", x.sign(0), 2);
        Due.due("land 2 saw none of it", x.sign(2), -1);
        Due.due("land 1 is not stopped", x.sign(1), -1);
        Due.due("it shows what was", x.shown(0, 0, 1), 4000);
        Due.due("of minute", x.shown(0, 0, 2), 0);
        Due.due("no sign of land 4", x.sign(4), -1);
        Due.due("no sign of land -1", x.sign(-1), -1);
        Due.due("go on", x.stop(0, false), true);
        Due.due("no sign then", x.sign(0), -1);
        Due.due("stop at once", x.stop(0, true), true);
        Due.due("of those since it was stopped", x.sign(0), -1);
        x.load(1, 60);
        x.goes();
        Due.due("again by what it showed at 0", x.sign(0), 4);
        Due.due("still showing minute 0", x.shown(0, 0, 2), 0);
        x.stop(3, false);
        x.goes();
        Due.due("land 3 has no wire to show", x.shown(3, 0, 0), -1);
        x.stop(3, true);
        x.load(1, 1);
        x.goes();
        Due.due("and so no sign", x.sign(3), -1);
    }

    private static void signByOnAlone() {
        SaggingNet x = twoWires(79);
        x.goes();
        x.stop(2, true);
        x.turn(2, false);
        x.goes();
        Due.due("no flow, but off", x.sign(2), 1);
        SaggingNet y = twoWires(79);
        y.goes();
        y.stop(1, true);
        y.tree(2, 100000);
        y.goes();
        Due.due("ahead of going down it was on", y.sign(1), -1);
        y.goes();
        Due.due("then it was not", y.sign(1), 2);
    }
}
