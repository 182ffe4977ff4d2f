/** Promises 14 to 19: a MINUTE goes by, FLOWS, how all is, EVENTS and what LED to them. */
public final class GoesTest {
    public static void main(String[] args) {
        islandsShed();
        aLongIsland();
        works();
        flows();
        warmth();
        down();
        eventsInTheirOrder();
        lastMinute();
        fourHundredEvents();
        led();
        ledByWorks();
        ledAgain();
        noSuchOnes();
        Due.end();
    }

    private static void islandsShed() {
        SaggingNet x = new SaggingNet();
        x.spot(0, 40, 5);
        x.spot(0, 30, 2);
        x.spot(0, 30, 2);
        x.spot(0, 0, 0);
        x.spot(0, 7, 9);
        x.spot(0, 20, 2);
        x.wire(0, 1, 1, 5000, 100000);
        x.wire(2, 1, 1, 5000, 100000);
        x.wire(3, 2, 1, 5000, 100000);
        x.wire(3, 5, 1, 5000, 100000);
        x.works(3, 71, 1);
        // 120 are too many for 71: 5 goes, then 2, and 70 stand. Spot 4 is alone and without WORKS.
        Due.due("spot 5 would be", x.spotIs(5, 2), 1);
        Due.due("spot 2 would be", x.spotIs(2, 2), 1);
        Due.due("spot 1 would not", x.spotIs(1, 2), 0);
        Due.due("without a load: not", x.spotIs(3, 2), 0);
        Due.due("spot 4 would be", x.spotIs(4, 2), 1);
        Due.due("by asking nothing is", x.spotIs(5, 1), 0);
        Due.due("lowest of the island", x.spotIs(5, 3), 0);
        Due.due("reserve", x.spotIs(2, 4), 1);
        Due.due("spot 4's island", x.spotIs(4, 3), 4);
        Due.due("reserve of none", x.spotIs(4, 4), 0);
        Due.due("three are shed", x.goes(), 3);
        int[] shed = {5, 2, 4};
        for (int e = 0; e < 3; e++) {
            Due.due("kind " + e, x.event(e, 0), 0);
            Due.due("spot " + e, x.event(e, 1), shed[e]);
            Due.due("minute " + e, x.event(e, 2), 0);
            Due.due("shed " + e, x.spotIs(shed[e], 1), 1);
        }
        Due.due("dark", x.count(10), 57);
        Due.due("it stays so", x.goes(), 0);
        x.works(3, 5000, 1);
        x.load(5, 0);
        Due.due("and no more load", x.count(10), 37);
        Due.due("still shed", x.spotIs(5, 1), 1);
    }

    /** A row of eight, told from its far end on. */
    private static void aLongIsland() {
        SaggingNet x = new SaggingNet();
        for (int s = 0; s < 8; s++) {
            x.spot(0, 1, 0);
        }
        for (int s = 6; s >= 0; s--) {
            x.wire(s, s + 1, 1, 5000, 100000);
        }
        x.works(0, 8, 0);
        Due.due("the lowest of all", x.spotIs(7, 3), 0);
        for (int w = 0; w < 7; w++) {
            Due.due("behind wire " + w, x.flow(w), 100 * (w + 1));
        }
        x.turn(3, false);
        Due.due("two islands", x.spotIs(7, 3), 4);
        Due.due("the near one", x.spotIs(3, 3), 0);
        Due.due("its reserve", x.spotIs(3, 4), 4);
        Due.due("four are shed", x.goes(), 4);
        Due.due("the highest first", x.event(0, 1), 7);
        Due.due("the lowest last", x.event(3, 1), 4);
    }

    private static void works() {
        SaggingNet x = new SaggingNet();
        x.spot(0, 100, 0);
        x.spot(0, 0, 0);
        x.wire(0, 1, 1, 5000, 100000);
        x.works(1, 30, 7);
        x.works(0, 30, 3);
        x.works(1, 50, 3);
        x.works(0, 30, 0);
        int[] gives = {0, 30, 40, 30};
        for (int k = 0; k < 4; k++) {
            Due.due("gives " + k, x.worksAre(k, 1), gives[k]);
        }
        Due.due("reserve", x.spotIs(1, 4), 40);
        x.run(1, false);
        Due.due("off gives 0", x.worksAre(1, 1), 0);
        Due.due("the next gives more", x.worksAre(2, 1), 50);
        Due.due("and the last the rest", x.worksAre(0, 1), 20);
        x.run(2, false);
        x.run(3, false);
        Due.due("shed: nothing to give", x.worksAre(0, 1), 0);
        Due.due("what 2", x.worksAre(0, 2), -1);
        Due.due("what -1", x.worksAre(0, -1), -1);
        Due.due("no works 4", x.worksAre(4, 0), -1);
        Due.due("no works -1", x.worksAre(-1, 0), -1);
    }

    private static void flows() {
        SaggingNet x = new SaggingNet();
        x.spot(0, 0, 0);
        x.spot(0, 10, 0);
        x.works(0, 500, 0);
        x.wire(0, 1, 1, 5000, 100000);
        x.wire(1, 0, 2, 5000, 100000);
        // 10 by 1 and 2 of 3: 3.333 and, against its way, 6.666.
        Due.due("a third", x.flow(0), 333);
        Due.due("two thirds, rounded down without the sign", x.flow(1), -666);
        x.load(1, 2000);
        Due.due("500 are too few", x.flow(0), 0);
        x.load(1, 0);
        Due.due("nothing flows", x.flow(1), 0);
        x.load(1, 1);
        x.turn(0, false);
        Due.due("not on", x.flow(0), 0);
        Due.due("all by the other", x.flow(1), -100);
        Due.due("no wire 2", x.flow(2), -1000000000L);
        Due.due("no wire -1", x.flow(-1), -1000000000L);
        aDenseNet();
    }

    /** Eight spots, fourteen wires of EASE 3, all LOADS and WORKS at their greatest: the longest fractions. */
    private static void aDenseNet() {
        SaggingNet x = new SaggingNet();
        PlainNet plain = new PlainNet();
        for (int s = 0; s < 8; s++) {
            x.spot(0, s < 4 ? 2000 : 1999, 0);
            plain.spot(0, s < 4 ? 2000 : 1999, 0);
        }
        for (int s = 0; s < 8; s++) {
            x.wire(s, (s + 1) % 8, 3, 5000, 100000);
            plain.wire(s, (s + 1) % 8, 3, 5000, 100000);
        }
        for (int s = 0; s < 6; s++) {
            int far = (s + (s % 2 == 0 ? 3 : 4)) % 8;
            x.wire(s, far, s % 3 + 1, 5000, 100000);
            plain.wire(s, far, s % 3 + 1, 5000, 100000);
        }
        for (int k = 0; k < 4; k++) {
            x.works(k == 3 ? 0 : 7, 5000, k);
            plain.works(k == 3 ? 0 : 7, 5000, k);
        }
        Due.due("fourteen wires", x.count(2), 14);
        for (int w = 0; w < 14; w++) {
            Due.due("dense flow " + w, x.flow(w), plain.flow(w));
        }
    }

    private static void warmth() {
        SaggingNet x = ByHandTest.twoSpots();
        x.cool(1);
        x.goes();
        Due.due("125 less 1", x.wireIs(0, 1), 124);
        x.goes();
        Due.due("and again", x.wireIs(0, 1), 248);
        x.turn(0, false);
        x.cool(1000);
        x.goes();
        Due.due("not below 0", x.wireIs(0, 1), 0);
        // 2000 through a LIMIT of 1 is 200000 a MINUTE: six of them would be above the most.
        SaggingNet y = new SaggingNet();
        y.spot(0, 0, 9);
        y.spot(0, 2000, 9);
        y.works(0, 2000, 0);
        y.wire(0, 1, 1, 1, 100000);
        for (int m = 1; m <= 6; m++) {
            y.goes();
            Due.due("warmth at " + m, y.wireIs(0, 1), Math.min(1000000, m * 199900));
        }
        // 100 through 3 wires of a LIMIT of 7: 33.33 times 100 through 7 is 476.19.
        SaggingNet z = new SaggingNet();
        z.spot(0, 0, 9);
        z.spot(0, 100, 9);
        z.works(0, 2000, 0);
        for (int w = 0; w < 3; w++) {
            z.wire(1, 0, 2, 7, 100000);
        }
        z.cool(0);
        z.goes();
        Due.due("rounded down", z.wireIs(2, 1), 476);
        Due.due("what 4", z.wireIs(0, 4), -1);
        Due.due("what -1", z.wireIs(0, -1), -1);
        Due.due("no wire 3", z.wireIs(3, 0), -1);
        Due.due("no wire -1", z.wireIs(-1, 0), -1);
    }

    private static void down() {
        SaggingNet x = ByHandTest.twoSpots();
        x.cool(0);
        x.tree(0, 874);
        Due.due("999: not yet", x.goes(), 0);
        x.tree(0, 0);
        x.goes();
        x.goes();
        x.goes();
        x.goes();
        x.goes();
        x.goes();
        x.goes();
        x.goes();
        Due.due("warm enough by itself", x.wireIs(0, 1), 1125);
        Due.due("without a tree: never", x.wireIs(0, 0), 0);
        SaggingNet y = ByHandTest.twoSpots();
        y.cool(0);
        y.tree(0, 875);
        Due.due("1000: down", y.goes(), 1);
        Due.due("it is", y.wireIs(0, 0), 3);
        y.mend(0);
        y.tree(0, 1);
        y.cool(1);
        y.turn(0, true);
        for (int m = 1; m < 8; m++) {
            Due.due("a tree of 1 at " + m, y.goes(), 0);
        }
        Due.due("not yet", y.wireIs(0, 1), 125 + 7 * 124);
        Due.due("a tree of 1 is one", y.goes(), 1);
        SaggingNet z = ByHandTest.twoSpots();
        z.turn(0, false);
        z.tree(0, 5000);
        z.shed(1, true);
        Due.due("what is off does not go down", z.goes(), 0);
    }

    private static void eventsInTheirOrder() {
        SaggingNet x = new SaggingNet();
        x.spot(0, 5, 1);
        x.spot(0, 5, 1);
        x.spot(0, 5, 1);
        x.works(2, 5, 0);
        x.works(2, 5, 0);
        x.wire(1, 2, 1, 1, 10);
        x.wire(1, 2, 1, 1, 10);
        x.wire(1, 2, 1, 1, 10);
        x.turn(2, false);
        x.tree(1, 10);
        Due.rules(x, "o(1=1);t(1=1)");
        Due.due("five come", x.goes(), 5);
        int[] kinds = {0, 1, 2, 3, 3};
        int[] numbers = {0, 1, 0, 0, 1};
        for (int e = 0; e < 5; e++) {
            Due.due("kind of " + e, x.event(e, 0), kinds[e]);
            Due.due("number of " + e, x.event(e, 1), numbers[e]);
            Due.due("minute of " + e, x.event(e, 2), 0);
            Due.due("nothing led to " + e, x.event(e, 3), -1);
        }
        Due.due("now is 1", x.count(0), 1);
        Due.due("events", x.count(4), 5);
    }

    private static void lastMinute() {
        SaggingNet x = new SaggingNet();
        for (int m = 0; m < 499; m++) {
            Due.due("goes at " + m, x.goes(), 0);
        }
        Due.due("now is 499", x.count(0), 499);
        Due.due("and stays", x.goes(), -1);
        Due.due("still 499", x.count(0), 499);
        Due.due("bear(498)", x.bear(498), 0);
        Due.due("bear(499)", x.bear(499), -1);
        Due.due("held past 499", x.held(499, 0, 30), 1);
        Due.due("last of all", x.last(0, 30), 499);
    }

    /** Fourteen wires are tripped again and again: what comes behind the 400th is not told. */
    private static void fourHundredEvents() {
        SaggingNet x = new SaggingNet();
        x.spot(0, 0, 0);
        x.spot(0, 0, 0);
        for (int w = 0; w < 14; w++) {
            x.wire(0, 1, 1, 1, 1);
        }
        Due.rules(x, "t(1=1)");
        int came = 0;
        for (int m = 0; m < 29; m++) {
            came += x.goes();
            Due.due("events at " + m, x.count(4), Math.min(400, came));
            for (int w = 0; w < 14; w++) {
                x.turn(w, true);
            }
        }
        Due.due("as many came", came, 406);
        Due.due("the last one told", x.event(399, 1), 7);
        Due.due("its minute", x.event(399, 2), 28);
        Due.due("none behind it", x.event(400, 1), -1);
    }

    /** A triangle: wire 0 trips at 0, so 1 and 2 trip at 1, so spot 1 is shed at 2. */
    private static void led() {
        SaggingNet x = new SaggingNet();
        x.spot(0, 0, 9);
        x.spot(1, 90, 5);
        x.spot(0, 0, 1);
        x.works(0, 300, 5);
        x.wire(0, 1, 1, 100, 5000);
        x.wire(0, 2, 1, 100, 5000);
        x.wire(2, 1, 1, 100, 5000);
        Due.rules(x, "t(f>5999)");
        Due.due("one", x.goes(), 1);
        Due.due("two", x.goes(), 2);
        Due.due("one", x.goes(), 1);
        Due.due("nothing led to the first", x.event(0, 3), -1);
        Due.due("the first led to 1", x.event(1, 3), 0);
        Due.due("the first led to 2", x.event(2, 3), 0);
        Due.due("either of two alone did not", x.event(3, 3), -1);
        Due.rules(x, "t(f>8000)");
        Due.due("by another text it had not come at all", x.event(1, 3), 0);
        Due.rules(x, "t(1=1)");
        Due.due("by that it had come all the same", x.event(1, 3), -1);
    }

    private static void ledByWorks() {
        SaggingNet x = new SaggingNet();
        x.spot(0, 50, 1);
        x.works(0, 30, 0);
        x.works(0, 30, 0);
        x.works(0, 20, 0);
        Due.rules(x, "o(m=0&i>0)");
        Due.due("works 1 and 2", x.goes(), 2);
        Due.due("spot 0 is shed", x.goes(), 1);
        // With works 1 there were 60, with works 2 just 50: the lower EVENT is told.
        Due.due("led by", x.event(2, 3), 0);
        SaggingNet y = new SaggingNet();
        y.spot(0, 50, 1);
        y.works(0, 30, 0);
        y.works(0, 19, 0);
        y.works(0, 20, 0);
        Due.rules(y, "o(m=0&i>0)");
        y.goes();
        y.goes();
        Due.due("the first alone is too little", y.event(2, 3), 1);
        // SHED leads to nothing, and what was two MINUTES before does not either.
        SaggingNet z = new SaggingNet();
        z.spot(0, 50, 1);
        z.works(0, 40, 0);
        Due.rules(z, "o(d=50&m>0)");
        z.goes();
        z.goes();
        Due.due("works went after the spot", z.event(1, 0), 3);
        Due.due("but shed led to nothing", z.event(1, 3), -1);
    }

    /** n is as it was; COOL as it is now; DOWN leads as well. */
    private static void ledAgain() {
        SaggingNet x = new SaggingNet();
        x.spot(0, 0, 9);
        x.spot(0, 40, 9);
        x.works(0, 50, 0);
        x.wire(0, 1, 1, 40, 1000);
        x.wire(0, 1, 1, 40, 1000);
        x.cool(0);
        x.tree(0, 950);
        x.tree(1, 850);
        Due.due("wire 0 goes down", x.goes(), 1);
        Due.due("wire 1 goes down", x.goes(), 1);
        Due.due("wire 0 led to it", x.event(1, 3), 0);
        x.cool(1000);
        Due.due("it had not come, still", x.event(1, 3), 0);
        x.cool(0);
        SaggingNet y = new SaggingNet();
        y.spot(0, 0, 9);
        y.spot(0, 0, 9);
        y.wire(0, 1, 1, 40, 1000);
        y.wire(0, 1, 1, 40, 1000);
        Due.rules(y, "t(i=0&m=0|i=1&n=1)");
        y.goes();
        Due.due("wire 1 by n", y.goes(), 1);
        Due.due("n was as it was: not led", y.event(1, 3), -1);
    }

    private static void noSuchOnes() {
        SaggingNet x = ByHandTest.twoSpots();
        Due.due("no spot 2", x.spotIs(2, 0), -1);
        Due.due("no spot -1", x.spotIs(-1, 0), -1);
        Due.due("what 5", x.spotIs(0, 5), -1);
        Due.due("what -1", x.spotIs(0, -1), -1);
        x.tree(0, 1000);
        x.goes();
        Due.due("event what 4", x.event(0, 4), -1);
        Due.due("event what -1", x.event(0, -1), -1);
        Due.due("event -1", x.event(-1, 0), -1);
        Due.due("event 1", x.event(1, 0), -1);
    }
}
