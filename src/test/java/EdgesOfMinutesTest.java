/** Promises 14 to 21, sentence by sentence: MINUTES at their ends, AS IT STANDS, FLOWS, EVENTS, what can't be borne. */
public final class EdgesOfMinutesTest {
    private static final long NO_FLOW = -1000000000L;

    public static void main(String[] args) {
        itIs499();
        nothingToGoBy();
        lessThanTheLoads();
        notShedAndHaveALoad();
        lowestRankHighestNumber();
        islandsByTheirLowestSpots();
        itStaysSo();
        givesByPriceThenByNumbers();
        noSuchFlow();
        flowOfWhatIsNotOn();
        roundedDownWithoutItsSign();
        warmthZeroAtLeast();
        warmthAMillionAtMost();
        warmthRoundedDown();
        roomOrMore();
        stillOn();
        worksThatAreOn();
        fourHundredAtMost();
        noSuchWhat();
        noSuchEvent();
        ledToDown();
        ledToWorks();
        ledToTheSecondThatWasShed();
        whatCantLead();
        ledByTextAndCoolOfNow();
        exactlyAboveItsLimit();
        shedOtherwiseThanNow();
        bitsOfAllWires();
        didNotGoBy();
        theFirstMinute();
        Due.end();
    }

    private static SaggingNet at(int minute) {
        SaggingNet x = new SaggingNet();
        x.spot(0, 0, 0);
        for (int m = 0; m < minute; m++) {
            x.goes();
        }
        return x;
    }

    /** NONE: it is 499. */
    private static void itIs499() {
        SaggingNet x = at(498);
        Due.due("NOW is 498", x.count(0), 498);
        Due.due("the last that goes by", x.goes(), 0);
        Due.due("NOW is 499", x.count(0), 499);
        Due.due("no more", x.goes(), -1);
        Due.due("nor now", x.goes(), -1);
        Due.due("NOW stays", x.count(0), 499);
        Due.due("498 went by", x.bear(498), 0);
        Due.due("499 did not", x.bear(499), -1);
        Due.due("by hand all can be done", x.shed(0, true), true);
    }

    /** How many EVENTS came: of nothing told none. */
    private static void nothingToGoBy() {
        SaggingNet x = new SaggingNet();
        Due.due("nothing", x.goes(), 0);
        Due.due("NOW is 1", x.count(0), 1);
        Due.due("no event", x.event(0, 0), -1);
    }

    private static SaggingNet island(int most, int... loads) {
        SaggingNet x = new SaggingNet();
        for (int s = 0; s < loads.length; s++) {
            x.spot(0, loads[s], 5);
            if (s > 0) {
                x.wire(s - 1, s, 1, 5000, 100000);
            }
        }
        if (most > 0) {
            x.works(0, most, 0);
        }
        return x;
    }

    private static int darkNow(SaggingNet x) {
        int bits = 0;
        for (int s = 0; s < x.count(1); s++) {
            bits |= x.spotIs(s, 2) << s;
        }
        return bits;
    }

    /** While MOST is less than LOADS: as much is enough. */
    private static void lessThanTheLoads() {
        Due.due("just enough", darkNow(island(30, 10, 10, 10)), 0);
        Due.due("one too little", darkNow(island(29, 10, 10, 10)), 4);
        Due.due("just enough for two", darkNow(island(20, 10, 10, 10)), 4);
        Due.due("one too little for two", darkNow(island(19, 10, 10, 10)), 6);
        Due.due("too little for one", darkNow(island(9, 10, 10, 10)), 7);
        Due.due("no works", darkNow(island(0, 10, 10, 10)), 7);
        Due.due("no works, no loads", darkNow(island(0, 0, 0, 0)), 0);
        Due.due("reserve 0", island(30, 10, 10, 10).spotIs(2, 4), 0);
        Due.due("reserve of what is left", island(29, 10, 10, 10).spotIs(2, 4), 9);
        Due.due("reserve of none", island(9, 10, 10, 10).spotIs(0, 4), 9);
        Due.due("no works: no reserve", island(0, 10).spotIs(0, 4), 0);
        SaggingNet off = island(30, 10, 10, 10);
        off.run(0, false);
        Due.due("works that are OFF give nothing", darkNow(off), 7);
        Due.due("nor do they count", off.spotIs(0, 4), 0);
        SaggingNet greatest = island(5000, 2000, 2000, 1000);
        Due.due("the greatest MOST", darkNow(greatest), 0);
        greatest.load(2, 1001);
        Due.due("and one more", darkNow(greatest), 4);
    }

    /** SPOTS that are not SHED and have a LOAD. */
    private static void notShedAndHaveALoad() {
        SaggingNet x = new SaggingNet();
        x.spot(0, 50, 0);
        x.spot(0, 30, 1);
        x.spot(0, 20, 2);
        x.spot(0, 0, 0);
        for (int s = 1; s < 4; s++) {
            x.wire(0, s, 1, 5000, 100000);
        }
        x.works(0, 20, 0);
        x.shed(0, true);
        Due.due("what is SHED counts no more, and is not SHED again", darkNow(x), 3);
        Due.due("one comes", x.goes(), 1);
        Due.due("it is spot 1", x.event(0, 1), 1);
        x.run(0, false);
        Due.due("but that without a LOAD", darkNow(x), 7);
        x.shed(3, true);
        Due.due("unless it was SHED by hand", darkNow(x), 15);
    }

    /** That of lowest RANK, of like ones the highest. */
    private static void lowestRankHighestNumber() {
        int[] ranks = {3, 0, 9, 3, 0, 3};
        int[] due = {4, 1, 5, 3, 0, 2};
        SaggingNet x = new SaggingNet();
        for (int s = 0; s < 6; s++) {
            x.spot(0, 10, ranks[s]);
            if (s > 0) {
                x.wire(0, s, 1, 5000, 100000);
            }
        }
        for (int k = 0; k < 6; k++) {
            x.works(0, 10, 0);
        }
        for (int gone = 0; gone < 6; gone++) {
            Due.due("none too many", x.goes(), 0);
            x.run(gone, false);
            Due.due("one comes", x.goes(), 1);
            Due.due("next", x.event(gone, 1), due[gone]);
        }
        SaggingNet all = new SaggingNet();
        for (int s = 0; s < 6; s++) {
            all.spot(0, 10, ranks[s]);
            if (s > 0) {
                all.wire(0, s, 1, 5000, 100000);
            }
        }
        Due.due("all at once", all.goes(), 6);
        for (int e = 0; e < 6; e++) {
            Due.due("in the order in which they were: " + e, all.event(e, 1), due[e]);
        }
    }

    /** ISLANDS by their lowest SPOTS. */
    private static void islandsByTheirLowestSpots() {
        SaggingNet x = new SaggingNet();
        for (int s = 0; s < 6; s++) {
            x.spot(0, 1, s == 3 ? 9 : 5 - s);
        }
        x.wire(5, 0, 1, 1, 1);
        x.wire(4, 1, 1, 1, 1);
        x.wire(2, 4, 1, 1, 1);
        int[] lowest = {0, 1, 1, 3, 1, 0};
        for (int s = 0; s < 6; s++) {
            Due.due("the lowest of " + s, x.spotIs(s, 3), lowest[s]);
        }
        int[] due = {5, 0, 4, 2, 1, 3};
        Due.due("all are shed", x.goes(), 6);
        for (int e = 0; e < 6; e++) {
            Due.due("island by island: " + e, x.event(e, 1), due[e]);
        }
    }

    /** One of these is SHED (it stays so); by asking nothing is. */
    private static void itStaysSo() {
        SaggingNet x = island(5, 5, 5);
        Due.due("by asking", x.spotIs(1, 2), 1);
        Due.due("by asking", x.flow(0), 0);
        Due.due("by asking", x.wireIs(0, 3), 0);
        Due.due("by asking", x.worksAre(0, 1), 5);
        Due.due("nothing is SHED", x.spotIs(1, 1), 0);
        Due.due("no LOADS that are SHED", x.count(10), 0);
        Due.due("when a MINUTE goes by", x.goes(), 1);
        Due.due("it is", x.spotIs(1, 1), 1);
        Due.due("and its LOAD", x.count(10), 5);
        x.load(0, 0);
        Due.due("there is enough, but it stays so", x.spotIs(1, 2), 1);
        Due.due("and no EVENT comes again", x.goes(), 0);
        Due.due("it is", x.spotIs(1, 1), 1);
    }

    /** By PRICE, then by numbers, each as much as it can, till all LOADS are met. */
    private static void givesByPriceThenByNumbers() {
        SaggingNet x = new SaggingNet();
        x.spot(0, 1000, 5);
        x.spot(0, 0, 5);
        x.wire(0, 1, 1, 5000, 100000);
        int[] prices = {99, 0, 5, 5, 0};
        for (int k = 0; k < 5; k++) {
            x.works(k % 2, 400, prices[k]);
        }
        x.works(1, 1, 0);
        int[] at1000 = {0, 400, 199, 0, 400, 1};
        int[] at2000 = {399, 400, 400, 400, 400, 1};
        int[] at801 = {0, 400, 0, 0, 400, 1};
        int[] at802 = {0, 400, 1, 0, 400, 1};
        gives(x, 1000, at1000);
        gives(x, 2000, at2000);
        gives(x, 801, at801);
        gives(x, 802, at802);
        gives(x, 0, new int[6]);
        x.shed(0, true);
        gives(x, 1000, new int[6]);
    }

    private static void gives(SaggingNet x, int load, int[] due) {
        x.load(0, load);
        for (int k = 0; k < due.length; k++) {
            Due.due("works " + k + " for " + load, x.worksAre(k, 1), due[k]);
        }
    }

    /** -1000000000: no such one. */
    private static void noSuchFlow() {
        SaggingNet x = ByHandTest.twoSpots();
        Due.each("flow", x::flow, NO_FLOW, Due.outside(0, 0));
        Due.due("there is one", x.flow(0), 5000);
    }

    /** Of one that is not ON 0. */
    private static void flowOfWhatIsNotOn() {
        SaggingNet x = EdgesByHandTest.oneOfEach();
        Due.due("ON: all of it", x.flow(0), 4000);
        Due.each("OFF, TRIPPED, DOWN", x::flow, 0, 1, 2, 3);
        x.turn(1, true);
        Due.each("by two", x::flow, 2000, 0, 1);
        x.turn(0, false);
        Due.due("OFF now", x.flow(0), 0);
        Due.due("all by the other", x.flow(1), 4000);
        x.goes();
        Due.due("a SCREEN shows 0 as well", x.shown(0, 0, 1), 0);
        Due.due("and that it was not ON", x.shown(0, 0, 0), 0);
        x.turn(1, false);
        Due.due("none is ON", x.flow(1), 0);
        Due.due("spot 1 is without works", x.goes(), 1);
    }

    /** FLOWS are fractions: rounded down without its sign, below 0 from b to a. */
    private static void roundedDownWithoutItsSign() {
        SaggingNet x = new SaggingNet();
        for (int s = 0; s < 4; s++) {
            x.spot(0, s == 3 ? 1 : 0, 0);
        }
        x.works(0, 5000, 0);
        int[] ends = {0, 1, 0, 2, 1, 2, 1, 3, 2, 3, 0, 3, 1, 2};
        int[] eases = {2, 3, 1, 1, 1, 3, 1};
        for (int w = 0; w < 7; w++) {
            x.wire(ends[2 * w], ends[2 * w + 1], eases[w], 5000, 100000);
        }
        // One through 115 from b to a.
        Due.due("less than a hundredth", x.flow(2), 0);
        x.load(3, 2);
        Due.due("1.7 hundredths", x.flow(2), -1);
        x.load(3, 115);
        Due.due("just one", x.flow(2), -100);
        x.load(3, 116);
        Due.due("1.0086", x.flow(2), -100);
        x.load(3, 2000);
        Due.due("17.391", x.flow(2), -1739);
    }

    /** WARMTH: 0 at least. */
    private static void warmthZeroAtLeast() {
        SaggingNet x = ByHandTest.twoSpots();
        // 50 through 40 is 125 a MINUTE.
        x.cool(126);
        x.goes();
        Due.due("not below", x.wireIs(0, 1), 0);
        x.cool(125);
        x.goes();
        Due.due("just 0", x.wireIs(0, 1), 0);
        x.cool(124);
        x.goes();
        Due.due("just 1", x.wireIs(0, 1), 1);
        x.cool(126);
        x.goes();
        Due.due("0 again", x.wireIs(0, 1), 0);
        x.cool(0);
        x.goes();
        x.turn(0, false);
        x.cool(124);
        x.goes();
        Due.due("OFF cools as well", x.wireIs(0, 1), 1);
        x.goes();
        Due.due("not below", x.wireIs(0, 1), 0);
        SaggingNet y = EdgesByHandTest.oneOfEach();
        Due.each("none below at COOL 100", w -> y.wireIs(w, 1), 0, 0, 1, 2, 3);
    }

    /** 1000000 at most. */
    private static void warmthAMillionAtMost() {
        SaggingNet x = new SaggingNet();
        x.spot(0, 0, 9);
        x.spot(0, 2000, 9);
        x.works(0, 2000, 0);
        x.wire(0, 1, 1, 1, 100000);
        x.cool(0);
        for (int m = 1; m <= 5; m++) {
            x.goes();
            Due.due("WARMTH at " + m, x.wireIs(0, 1), 200000 * m);
        }
        x.goes();
        Due.due("not above", x.wireIs(0, 1), 1000000);
        x.cool(1);
        x.goes();
        Due.due("less COOL it is above still", x.wireIs(0, 1), 1000000);
        x.turn(0, false);
        x.goes();
        Due.due("OFF: less COOL", x.wireIs(0, 1), 999999);
        x.turn(0, true);
        x.shed(1, false);
        x.load(1, 0);
        x.goes();
        Due.due("nothing flows: less COOL", x.wireIs(0, 1), 999998);
    }

    /** By FLOW in hundredths of its LIMIT, rounded down (FLOW times 100 through LIMIT). */
    private static void warmthRoundedDown() {
        int[] loads = {69, 70, 71, 139, 140, 2000};
        int[] due = {98, 100, 101, 198, 200, 2857};
        for (int i = 0; i < loads.length; i++) {
            SaggingNet x = new SaggingNet();
            x.spot(0, 0, 9);
            x.spot(0, loads[i], 9);
            x.works(0, 2000, 0);
            // From b to a: without its sign.
            x.wire(1, 0, 1, 70, 100000);
            x.cool(0);
            x.goes();
            Due.due("70 is the LIMIT: " + loads[i], x.wireIs(0, 1), due[i]);
        }
        SaggingNet least = ByHandTest.twoSpots();
        least.cool(0);
        least.load(1, 0);
        least.goes();
        Due.due("nothing flows", least.wireIs(0, 1), 0);
    }

    /** WARMTH now and TREE together are its ROOM or more. */
    private static void roomOrMore() {
        int[] trees = {874, 875, 876, 100000, 1, 0};
        int[] due = {0, 3, 3, 3, 0, 0};
        for (int i = 0; i < trees.length; i++) {
            SaggingNet x = ByHandTest.twoSpots();
            x.cool(0);
            x.tree(0, trees[i]);
            Due.due("TREE " + trees[i], x.goes(), due[i] == 3 ? 1 : 0);
            Due.due("how it is", x.wireIs(0, 0), due[i]);
            Due.due("WARMTH", x.wireIs(0, 1), 125);
        }
        SaggingNet y = new SaggingNet();
        y.spot(0, 0, 9);
        y.spot(0, 0, 9);
        for (int w = 0; w < 4; w++) {
            y.wire(0, 1, 1, 1, 100000);
            y.tree(w, w == 1 ? 99999 : 100000);
        }
        y.turn(2, false);
        Due.due("the greatest ROOM and TREE: two at once", y.goes(), 2);
        Due.due("the first", y.event(0, 1), 0);
        Due.due("one less is not DOWN", y.wireIs(1, 0), 0);
        Due.due("what is OFF is not DOWN", y.wireIs(2, 0), 1);
        Due.due("the second", y.event(1, 1), 3);
        Due.due("both are DOWN", y.wireIs(0, 0) + y.wireIs(3, 0), 6);
        Due.due("not DOWN again", y.goes(), 0);
    }

    /** Each WIRE that is still ON is TRIPPED: not one that went DOWN, nor one that is OFF. */
    private static void stillOn() {
        SaggingNet x = new SaggingNet();
        x.spot(0, 0, 9);
        x.spot(0, 0, 9);
        for (int w = 0; w < 4; w++) {
            x.wire(0, 1, 1, 1, 1);
        }
        x.tree(1, 1);
        x.turn(2, false);
        Due.rules(x, "t(1=1);t(i<9)");
        Due.due("one DOWN, two TRIPPED, each once", x.goes(), 3);
        int[] due = {2, 3, 1, 2};
        for (int w = 0; w < 4; w++) {
            Due.due("wire " + w, x.wireIs(w, 0), due[w]);
        }
        Due.due("DOWN comes first", x.event(0, 0), 1);
        Due.due("then by numbers", x.event(1, 1), 0);
        Due.due("then by numbers", x.event(2, 1), 3);
        Due.due("none is left", x.goes(), 0);
    }

    /** Each WORKS that is ON is OFF: not once more. */
    private static void worksThatAreOn() {
        SaggingNet x = new SaggingNet();
        x.spot(0, 0, 9);
        for (int k = 0; k < 9; k++) {
            x.works(0, 1, 0);
        }
        x.run(4, false);
        Due.rules(x, "o(1=1);o(i<9)");
        Due.due("eight, each once", x.goes(), 8);
        for (int e = 0; e < 8; e++) {
            Due.due("by numbers", x.event(e, 1), e < 4 ? e : e + 1);
            Due.due("kind", x.event(e, 0), 3);
        }
        Due.due("none is left", x.goes(), 0);
    }

    /** EVENTS (400 at most; what comes then is not told). */
    private static void fourHundredAtMost() {
        SaggingNet x = new SaggingNet();
        x.spot(0, 0, 0);
        x.spot(0, 0, 0);
        for (int w = 0; w < 14; w++) {
            x.wire(0, 1, 1, 1, 1);
        }
        for (int k = 0; k < 2; k++) {
            x.works(k, 1, 1);
        }
        Due.rules(x, "t(1=1);o(1=1)");
        for (int m = 0; m < 25; m++) {
            Due.due("sixteen come at " + m, x.goes(), 16);
            for (int w = 0; w < 14; w++) {
                x.turn(w, true);
            }
            x.run(0, true);
            x.run(1, true);
        }
        Due.due("just 400", x.count(4), 400);
        Due.due("the 400th", x.event(399, 0), 3);
        Due.due("the 400th", x.event(399, 1), 1);
        Due.due("the 400th", x.event(399, 2), 24);
        Due.due("there is none behind", x.event(400, 0), -1);
        Due.due("sixteen come", x.goes(), 16);
        Due.due("none of them is told", x.count(4), 400);
        Due.due("none of them is told", x.event(400, 0), -1);
        Due.due("the 400th stays", x.event(399, 2), 24);
        Due.due("what came is TRIPPED all the same", x.wireIs(13, 0), 2);
        Due.due("and not HELD", x.held(25, 0, 1), 0);
    }

    /** NONE for others. */
    private static void noSuchWhat() {
        SaggingNet x = ByHandTest.twoSpots();
        Due.each("wireIs what", what -> x.wireIs(0, what), -1, Due.outside(0, 3));
        Due.each("wireIs wire", w -> x.wireIs(w, 0), -1, Due.outside(0, 0));
        Due.each("worksAre what", what -> x.worksAre(0, what), -1, Due.outside(0, 1));
        Due.each("worksAre works", k -> x.worksAre(k, 0), -1, Due.outside(0, 0));
        Due.each("spotIs what", what -> x.spotIs(0, what), -1, Due.outside(0, 4));
        Due.each("spotIs spot", s -> x.spotIs(s, 0), -1, Due.outside(0, 1));
        for (int what = 0; what < 4; what++) {
            int asked = what;
            Due.each("wireIs " + what, w -> x.wireIs(w, asked), -1, -1, 1);
            Due.each("spotIs " + what, s -> x.spotIs(s, asked), -1, -1, 2);
        }
        Due.due("spotIs 4", x.spotIs(2, 4), -1);
        Due.due("worksAre 1", x.worksAre(1, 1), -1);
    }

    private static void noSuchEvent() {
        SaggingNet x = EdgesByHandTest.oneOfEach();
        Due.each("event", e -> x.event(e, 0), -1, Due.outside(0, 3));
        Due.each("event's what", what -> x.event(0, what), -1, Due.outside(0, 3));
        Due.each("nothing led to one of minute 0", e -> x.event(e, 3), -1, 0, 1, 2, 3);
        Due.each("the minute", e -> x.event(e, 2), 0, 0, 1, 2, 3);
        for (int e = 0; e < 4; e++) {
            Due.due("kind " + e, x.event(e, 0), e);
        }
    }

    /** Wire 0 is DOWN at 0; wire 1 (COOL 0, so much TREE) at 1. */
    private static SaggingNet twoGoDown(int tree) {
        SaggingNet x = new SaggingNet();
        x.spot(0, 0, 9);
        x.spot(0, 40, 9);
        x.works(0, 50, 0);
        x.wire(0, 1, 1, 40, 1000);
        x.wire(0, 1, 1, 40, 1000);
        x.cool(0);
        x.tree(0, 950);
        x.tree(1, tree);
        Due.due("wire 0", x.goes(), 1);
        Due.due("wire 1", x.goes(), 1);
        Due.due("is DOWN", x.wireIs(1, 0), 3);
        return x;
    }

    /** No EVENT like y had come. */
    private static void ledToDown() {
        // With wire 0 it were 50 warmer, not 100.
        Due.due("it had not come", twoGoDown(850).event(1, 3), 0);
        Due.due("just not", twoGoDown(899).event(1, 3), 0);
        Due.due("it had come all the same", twoGoDown(900).event(1, 3), -1);
    }

    private static void ledToWorks() {
        SaggingNet x = new SaggingNet();
        x.spot(0, 60, 1);
        for (int k = 0; k < 3; k++) {
            x.works(0, 40, k);
        }
        Due.rules(x, "o(m=0&i=1);o(m=1&i=2&g>0);o(m=1&i=0)");
        Due.due("works 1", x.goes(), 1);
        Due.due("works 0 and 2", x.goes(), 2);
        Due.due("works 0 had gone all the same", x.event(1, 3), -1);
        Due.due("works 2 had nothing to give", x.event(2, 3), 0);
    }

    private static void ledToTheSecondThatWasShed() {
        SaggingNet x = island(1, 0, 0, 0);
        Due.rules(x, "o(m=0)");
        Due.due("works 0", x.goes(), 1);
        x.load(0, 1);
        x.load(1, 10);
        x.load(2, 10);
        Due.due("all are SHED", x.goes(), 3);
        Due.due("spot 2 had been all the same", x.event(1, 3), -1);
        Due.due("spot 1 had been all the same", x.event(2, 3), -1);
        Due.due("spot 0 had had its works", x.event(3, 3), 0);
    }

    /** EVENT x (KINDS 1 to 3) of the MINUTE before. */
    private static void whatCantLead() {
        // d is 5 by what was SHED at 0: that leads to nothing; works 0 of minute 0 did, and not those of minute 1.
        SaggingNet x = new SaggingNet();
        x.spot(0, 5, 9);
        x.spot(0, 0, 9);
        x.works(1, 9, 0);
        x.works(1, 9, 1);
        x.works(1, 9, 2);
        Due.rules(x, "o(i=0&d=5&m=0);o(i=1&m=1&d=5);o(i=2&r<10&m=2)");
        Due.due("spot 0 and works 0", x.goes(), 2);
        Due.due("works 1", x.goes(), 1);
        Due.due("works 2", x.goes(), 1);
        Due.due("nothing led to those of minute 0", x.event(1, 3), -1);
        Due.due("SHED led to nothing", x.event(2, 3), -1);
        Due.due("of the minute before: works 1, not works 0", x.event(3, 3), 2);
    }

    /** The TEXT and COOL as they are now; n as it was then. */
    private static void ledByTextAndCoolOfNow() {
        SaggingNet x = twoGoDown(900);
        x.cool(1);
        Due.due("by COOL of now it had not come", x.event(1, 3), 0);
        x.cool(0);
        Due.due("by COOL of then it had", x.event(1, 3), -1);
        Due.rules(x, "t(m=1&i=1)");
        Due.due("DOWN ahead of TRIPPED", x.event(1, 3), -1);
        SaggingNet y = new SaggingNet();
        y.spot(0, 0, 9);
        y.spot(0, 0, 9);
        y.wire(0, 1, 1, 1, 1);
        y.wire(0, 1, 1, 1, 1);
        Due.rules(y, "t(m=0&i=0);t(m=1)");
        Due.due("wire 0", y.goes(), 1);
        Due.due("wire 1", y.goes(), 1);
        Due.due("it had come all the same", y.event(1, 3), -1);
        Due.rules(y, "t(n=2&m=1)");
        Due.due("n was 1: by the TEXT of now it had not", y.event(1, 3), 0);
        Due.rules(y, "t(n=1&m=1)");
        Due.due("n was 1", y.event(1, 3), -1);
    }

    /** A FLOW above its LIMIT, exactly: 183 through 182, that is told as 1.00. */
    private static void exactlyAboveItsLimit() {
        Due.due("a LIMIT of 1 is passed", eightWires(1, 183).wireIs(7, 3), 1);
        Due.due("just 1 is not above", eightWires(1, 182).wireIs(7, 3), 0);
        Due.due("a LIMIT of 2 is not", eightWires(2, 183).wireIs(7, 3), 0);
        SaggingNet x = eightWires(1, 183);
        x.turn(7, false);
        Due.due("it is told so", x.flow(2), 100);
        SaggingNet whole = new SaggingNet();
        whole.spot(0, 0, 0);
        whole.spot(0, 2000, 0);
        whole.works(0, 2000, 0);
        whole.wire(1, 0, 1, 2000, 1);
        whole.wire(0, 1, 1, 1999, 1);
        Due.due("just its LIMIT", whole.wireIs(1, 3), 0);
        Due.due("one above", whole.wireIs(0, 3), 1);
    }

    /** Without wire 7, by wire 2 (of that LIMIT) there flows LOAD through 182. */
    private static SaggingNet eightWires(int limit, int load) {
        SaggingNet x = new SaggingNet();
        for (int s = 0; s < 4; s++) {
            x.spot(0, s == 3 ? load : 0, 0);
        }
        x.works(0, 5000, 0);
        int[] ends = {0, 1, 0, 2, 1, 2, 1, 3, 2, 3, 0, 3, 1, 2, 0, 3};
        int[] eases = {2, 3, 1, 1, 2, 2, 3, 3};
        for (int w = 0; w < 8; w++) {
            x.wire(ends[2 * w], ends[2 * w + 1], eases[w], w == 2 ? limit : 5000, 100000);
        }
        return x;
    }

    /** A SPOT would be SHED that is not so now AS IT STANDS; 0 if it is not ON. */
    private static void shedOtherwiseThanNow() {
        SaggingNet x = island(10, 10, 10);
        Due.due("spot 1 is SHED with it and without it", x.wireIs(0, 3), 0);
        Due.due("nothing of it is so then", x.wireIs(0, 0) + x.spotIs(1, 1), 0);
        x.goes();
        Due.due("nor when minute 0 began", x.bear(0), 0);
        SaggingNet y = island(20, 10, 10);
        Due.due("spot 1 would be", y.wireIs(0, 3), 1);
        Due.due("nothing of it is so then", y.wireIs(0, 0) + y.spotIs(1, 1) + y.spotIs(1, 2), 0);
        y.goes();
        Due.due("when minute 0 began", y.bear(0), 1);
        y.load(1, 0);
        Due.due("without a LOAD it would not", y.wireIs(0, 3), 0);
        y.load(1, 10);
        y.shed(1, true);
        Due.due("SHED by hand it is so now", y.wireIs(0, 3), 0);
        y.shed(1, false);
        y.turn(0, false);
        Due.due("not ON: 0", y.wireIs(0, 3), 0);
    }

    /** As bits. */
    private static void bitsOfAllWires() {
        SaggingNet x = new SaggingNet();
        for (int s = 0; s < 8; s++) {
            x.spot(0, s == 7 ? 2 : 0, 5);
        }
        x.works(0, 2, 0);
        for (int w = 0; w < 14; w++) {
            x.wire(w / 2, w / 2 + 1, 1, w == 8 ? 2 : 1, 100000);
        }
        // Of two the other one carries 2: that of wire 9 can.
        Due.due("minute 0", x.goes(), 0);
        Due.due("all but wire 9", x.bear(0), 16383 - 512);
        x.turn(13, false);
        Due.due("minute 1", x.goes(), 0);
        Due.due("13 is OFF; 12 is above its LIMIT already", x.bear(1), 8191);
        for (int w = 0; w < 14; w++) {
            Due.due("now wire " + w, x.wireIs(w, 3), 8191 >> w & 1);
        }
    }

    /** NONE: it did not go by. */
    private static void didNotGoBy() {
        SaggingNet x = island(20, 10, 10);
        x.goes();
        x.load(1, 0);
        x.goes();
        Due.each("bear", x::bear, -1, Due.outside(0, 1));
        Due.due("the first", x.bear(0), 1);
        Due.due("the last", x.bear(1), 0);
        Due.each("NOW and later", x::bear, -1, 2, 3, 498, 499, 500);
        SaggingNet y = at(499);
        Due.each("at the end", y::bear, -1, Due.outside(0, 498));
        Due.due("the last that went by", y.bear(498), 0);
    }

    /** The first MINUTE at which some WIRE CAN'T BE BORNE; NONE: there is none. */
    private static void theFirstMinute() {
        SaggingNet x = island(20, 10, 10);
        Due.due("none went by", x.firstBorne(), -1);
        x.goes();
        Due.due("minute 0", x.firstBorne(), 0);
        x.load(1, 0);
        x.goes();
        Due.due("still minute 0", x.firstBorne(), 0);
        SaggingNet y = island(20, 10, 0);
        y.goes();
        y.goes();
        Due.due("none", y.firstBorne(), -1);
        y.load(1, 10);
        Due.due("wire 0 is now", y.wireIs(0, 3), 1);
        y.goes();
        y.load(1, 0);
        y.goes();
        Due.due("minute 2", y.firstBorne(), 2);
        SaggingNet z = new SaggingNet();
        z.spot(0, 0, 5);
        z.spot(0, 0, 5);
        z.works(0, 5, 0);
        z.wire(0, 1, 1, 5, 5);
        for (int m = 0; m < 498; m++) {
            z.goes();
        }
        z.load(1, 5);
        Due.due("none till 497", z.firstBorne(), -1);
        z.goes();
        Due.due("the last that can go by", z.firstBorne(), 498);
    }
}
