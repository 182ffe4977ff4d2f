/** Promises 22 to 24, sentence by sentence: SCREENS before the first MINUTE, STOPPED ones, THE SIGN. */
public final class EdgesOfScreensTest {
    public static void main(String[] args) {
        beforeTheFirstNothing();
        noSuchOnes();
        anEndInItsLand();
        theLatestMinute();
        aheadOfWhatComes();
        whichWiresWereOn();
        stoppedOrNot();
        stoppedAheadOfTheFirst();
        signOfEachWire();
        signByOnOrByFlow();
        signAsFlowTellsIt();
        theFirstMinuteSince();
        notStoppedAnyMore();
        Due.end();
    }

    /** Spots 0 to 3 in lands 0 to 3; wires 0 (0-1), 1 (1-2), 2 (2-3) in a row; 60 for spot 3. */
    private static SaggingNet fourLands() {
        SaggingNet x = new SaggingNet();
        for (int s = 0; s < 4; s++) {
            x.spot(s, s == 3 ? 60 : 0, 5);
        }
        x.works(0, 100, 0);
        for (int w = 0; w < 3; w++) {
            x.wire(w, w + 1, 1, 5000, 100000);
        }
        return x;
    }

    /** BEFORE the first: nothing. */
    private static void beforeTheFirstNothing() {
        SaggingNet x = fourLands();
        for (int k = 0; k < 4; k++) {
            for (int w = 0; w < 3; w++) {
                int land = k;
                int wire = w;
                Due.each("wire " + w + " in land " + k, what -> x.shown(land, wire, what), -1, 0, 1, 2);
            }
            Due.due("no sign of " + k, x.sign(k), -1);
        }
        x.goes();
        for (int k = 0; k < 4; k++) {
            Due.due("after it land " + k, x.shown(k, Math.min(k, 2), 2), 0);
        }
    }

    /** NONE: no such ones. */
    private static void noSuchOnes() {
        SaggingNet x = fourLands();
        x.goes();
        Due.each("shown land", k -> x.shown(k, 1, 0), -1, Due.outside(0, 3));
        Due.each("shown wire", w -> x.shown(1, w, 0), -1, Due.outside(0, 2));
        Due.each("shown what", what -> x.shown(1, 1, what), -1, Due.outside(0, 2));
        Due.each("sign", x::sign, -1, Due.outside(0, 3));
        Due.says("stop", k -> x.stop(k, true), false, Due.outside(0, 3));
        Due.says("stop no more", k -> x.stop(k, false), false, Due.outside(0, 3));
        Due.due("there is one", x.shown(1, 1, 1), 6000);
    }

    /** Of each WIRE that has an end in its LAND. */
    private static void anEndInItsLand() {
        SaggingNet x = fourLands();
        x.goes();
        for (int k = 0; k < 4; k++) {
            for (int w = 0; w < 3; w++) {
                boolean shows = k == w || k == w + 1;
                Due.due("ON: wire " + w + " in land " + k, x.shown(k, w, 0), shows ? 1 : -1);
                Due.due("FLOW: wire " + w + " in land " + k, x.shown(k, w, 1), shows ? 6000 : -1);
                Due.due("MINUTE: wire " + w + " in land " + k, x.shown(k, w, 2), shows ? 0 : -1);
            }
        }
        SaggingNet one = ByHandTest.twoSpots();
        one.goes();
        Due.each("lands without a spot show nothing", k -> one.shown(k, 0, 0), -1, 2, 3);
    }

    /** It takes each MINUTE in that goes by: the latest is shown. */
    private static void theLatestMinute() {
        SaggingNet x = fourLands();
        for (int m = 0; m < 5; m++) {
            x.load(3, m);
            x.goes();
            for (int k = 0; k < 4; k++) {
                Due.due("MINUTE in land " + k, x.shown(k, Math.min(k, 2), 2), m);
                Due.due("FLOW in land " + k, x.shown(k, Math.min(k, 2), 1), 100 * m);
            }
        }
        x.load(3, 99);
        Due.due("not what is now", x.shown(0, 0, 1), 400);
        x.turn(0, false);
        Due.due("nor how it is now", x.shown(0, 0, 0), 1);
    }

    /** By the FLOWS of the MINUTE, ahead of a to c. */
    private static void aheadOfWhatComes() {
        SaggingNet x = fourLands();
        x.tree(1, 100000);
        Due.rules(x, "t(i=0)");
        Due.due("wire 1 is DOWN, wire 0 TRIPPED", x.goes(), 2);
        Due.each("both were ON", w -> x.shown(1, w, 0), 1, 0, 1);
        Due.each("with their FLOWS", w -> x.shown(1, w, 1), 6000, 0, 1);
        Due.due("spot 3 is SHED", x.goes(), 1);
        Due.each("both are not", w -> x.shown(1, w, 0), 0, 0, 1);
        Due.each("no FLOWS", w -> x.shown(1, w, 1), 0, 0, 1);
        Due.due("wire 2 was ON", x.shown(2, 2, 0), 1);
        Due.due("without a FLOW, spot 3 being SHED", x.shown(2, 2, 1), 0);
    }

    private static void whichWiresWereOn() {
        for (int off = 0; off < 8; off++) {
            SaggingNet x = fourLands();
            for (int w = 0; w < 3; w++) {
                if ((off >> w & 1) == 1) {
                    x.turn(w, false);
                }
            }
            x.goes();
            for (int w = 0; w < 3; w++) {
                Due.due("wire " + w + " without " + off, x.shown(w, w, 0), 1 - (off >> w & 1));
                Due.due("on the other side", x.shown(w + 1, w, 0), 1 - (off >> w & 1));
            }
        }
    }

    /** STOPPED (or not any more): true; false: it is so. */
    private static void stoppedOrNot() {
        SaggingNet x = fourLands();
        for (int k = 0; k < 4; k++) {
            Due.due("not STOPPED at first: " + k, x.stop(k, false), false);
            Due.due("STOPPED: " + k, x.stop(k, true), true);
            Due.due("already: " + k, x.stop(k, true), false);
            Due.due("not any more: " + k, x.stop(k, false), true);
            Due.due("already not: " + k, x.stop(k, false), false);
        }
        x.goes();
        x.stop(1, true);
        x.load(3, 50);
        x.goes();
        long[] due = {5000, 6000, 5000};
        for (int k = 0; k < 3; k++) {
            Due.due("only that one stopped: " + k, x.shown(k, k, 1), due[k]);
            Due.due("its MINUTE: " + k, x.shown(k, k, 2), k == 1 ? 0 : 1);
        }
    }

    /** Its SCREEN showed nothing: no SIGN, and nothing is shown till it goes on. */
    private static void stoppedAheadOfTheFirst() {
        SaggingNet x = fourLands();
        for (int k = 0; k < 4; k++) {
            x.stop(k, true);
        }
        x.goes();
        x.turn(1, false);
        x.load(3, 1);
        x.goes();
        for (int k = 0; k < 4; k++) {
            Due.due("shows nothing: " + k, x.shown(k, Math.min(k, 2), 2), -1);
            Due.due("no sign: " + k, x.sign(k), -1);
        }
        x.stop(2, false);
        Due.due("not till a MINUTE goes by", x.shown(2, 1, 0), -1);
        x.goes();
        Due.due("now it does", x.shown(2, 1, 2), 2);
        Due.due("the others do not", x.shown(1, 1, 2), -1);
    }

    /** A WIRE that it shows. */
    private static void signOfEachWire() {
        for (int w = 0; w < 3; w++) {
            SaggingNet x = new SaggingNet();
            for (int s = 0; s < 4; s++) {
                x.spot(s, 0, 5);
            }
            for (int v = 0; v < 3; v++) {
                x.wire(v, v + 1, 1, 5000, 100000);
            }
            x.goes();
            for (int k = 0; k < 4; k++) {
                x.stop(k, true);
            }
            x.goes();
            Due.each("nothing yet", x::sign, -1, 0, 1, 2, 3);
            x.turn(w, false);
            Due.each("not by hand", x::sign, -1, 0, 1, 2, 3);
            x.goes();
            for (int k = 0; k < 4; k++) {
                Due.due("wire " + w + " in land " + k, x.sign(k), k == w || k == w + 1 ? 2 : -1);
            }
        }
    }

    /** Was ON or not otherwise than is shown, or had another FLOW. */
    private static void signByOnOrByFlow() {
        SaggingNet on = fourLands();
        on.load(3, 0);
        on.turn(0, false);
        on.goes();
        on.stop(0, true);
        on.turn(0, true);
        on.goes();
        Due.due("ON, and was not", on.sign(0), 1);
        SaggingNet flow = fourLands();
        flow.goes();
        flow.stop(0, true);
        flow.load(3, 61);
        flow.goes();
        Due.due("another FLOW", flow.sign(0), 1);
        SaggingNet how = fourLands();
        how.load(3, 0);
        how.turn(0, false);
        how.goes();
        how.stop(0, true);
        how.turn(0, true);
        Due.rules(how, "t(i=0&m=1)");
        how.goes();
        Due.due("it was ON at 1", how.sign(0), 1);
        how.stop(0, false);
        how.turn(0, false);
        how.goes();
        how.stop(0, true);
        how.turn(0, true);
        how.tree(0, 100000);
        how.turn(0, false);
        how.goes();
        Due.due("OFF as before", how.sign(0), -1);
        SaggingNet other = fourLands();
        other.load(3, 0);
        Due.rules(other, "t(i=0&m=0)");
        other.goes();
        other.goes();
        other.stop(0, true);
        other.turn(0, true);
        other.turn(0, false);
        other.goes();
        Due.due("TRIPPED or OFF: not ON all the same", other.sign(0), -1);
    }

    /** Likewise: as flow() tells it, in hundredths. Wires 5 and 6 carry LOAD through 844 to spot 4 and on. */
    private static void signAsFlowTellsIt() {
        SaggingNet x = new SaggingNet();
        for (int s = 0; s < 5; s++) {
            x.spot(s == 4 ? 1 : 0, s == 3 ? 1 : 0, 0);
        }
        x.works(0, 5000, 0);
        int[] ends = {0, 1, 0, 2, 1, 3, 2, 3, 0, 3, 1, 4, 4, 2, 0, 1, 2, 3, 0, 3};
        int[] eases = {1, 3, 3, 2, 3, 1, 1, 1, 3, 3};
        for (int w = 0; w < 10; w++) {
            x.wire(ends[2 * w], ends[2 * w + 1], eases[w], 5000, 100000);
        }
        x.goes();
        x.stop(1, true);
        x.load(3, 8);
        x.goes();
        Due.due("0.0095 is told as 0.0012 was", x.sign(1), -1);
        x.load(3, 9);
        Due.due("0.0107 is not", x.flow(5), 1);
        x.goes();
        Due.due("so it is a sign", x.sign(1), 2);
        SaggingNet y = new SaggingNet();
        y.spot(0, 0, 0);
        y.spot(0, 1, 0);
        y.spot(1, 0, 0);
        y.works(0, 9, 0);
        y.wire(0, 1, 1, 1, 1);
        y.wire(0, 2, 1, 1, 1);
        y.goes();
        y.stop(1, true);
        y.load(1, 2);
        y.goes();
        Due.due("what it does not show is no sign", y.sign(1), -1);
        y.stop(0, true);
        y.load(1, 1);
        y.goes();
        Due.due("of what it shows", y.sign(0), 2);
    }

    /** The first MINUTE gone by since the SCREEN was STOPPED. */
    private static void theFirstMinuteSince() {
        SaggingNet x = fourLands();
        x.goes();
        x.load(3, 10);
        x.goes();
        x.stop(1, true);
        Due.due("what was before is none", x.sign(1), -1);
        x.load(3, 20);
        Due.due("what is now is none", x.sign(1), -1);
        x.goes();
        Due.due("the first", x.sign(1), 2);
        x.goes();
        x.load(3, 10);
        x.goes();
        Due.due("it stays, be all again as shown", x.sign(1), 2);
        Due.due("MINUTE 1 is shown", x.shown(1, 1, 2), 1);
        Due.due("with its FLOW", x.shown(1, 1, 1), 1000);
        SaggingNet y = fourLands();
        for (int m = 0; m < 498; m++) {
            y.goes();
        }
        y.stop(3, true);
        y.load(3, 1);
        Due.due("not yet", y.sign(3), -1);
        y.goes();
        Due.due("in the last MINUTE that can go by", y.sign(3), 498);
        Due.due("what is shown", y.shown(3, 2, 2), 497);
    }

    /** NONE: its SCREEN is not STOPPED. */
    private static void notStoppedAnyMore() {
        SaggingNet x = fourLands();
        x.goes();
        Due.each("none is", x::sign, -1, 0, 1, 2, 3);
        x.stop(1, true);
        x.load(3, 20);
        x.goes();
        Due.due("the sign", x.sign(1), 1);
        Due.each("of the others none", x::sign, -1, 0, 2, 3);
        x.stop(1, false);
        Due.due("not any more", x.sign(1), -1);
        Due.due("it shows what it did", x.shown(1, 1, 1), 6000);
        x.stop(1, true);
        Due.due("since now", x.sign(1), -1);
        x.goes();
        Due.due("by what is shown still", x.sign(1), 2);
        x.stop(1, false);
        x.goes();
        Due.due("it takes MINUTES in again", x.shown(1, 1, 1), 2000);
        Due.due("its MINUTE", x.shown(1, 1, 2), 3);
        x.stop(1, true);
        x.goes();
        Due.due("nothing is otherwise", x.sign(1), -1);
    }
}
