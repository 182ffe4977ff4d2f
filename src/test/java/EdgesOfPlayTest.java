/** Promises 25 to 27, 34 and 35, sentence by sentence: sets, MINUTES and money at their ends, and what is of like ones. */
public final class EdgesOfPlayTest {
    public static void main(String[] args) {
        noSuchMinute();
        noSuchSet();
        noSuchMinutes();
        asItWasWhenItBegan();
        nothingStays();
        nAsItWas();
        theTextAndCoolAsTheyAreNow();
        pastTheLastMinute();
        noEventComes();
        shedAlreadyStaysSo();
        theGreatestMinute();
        thereIsNoLast();
        thereIsNoLeast();
        leastOfEightSpots();
        leastLoadsThenSpotsThenBits();
        leastByThen();
        noSuchCost();
        noSuchMoney();
        notAboveTheMoney();
        onAndWithATree();
        theEightLowest();
        cutOfLikeOnes();
        shedAtTheEnd();
        Due.end();
    }

    /** A source and as many spots with these LOADS, each at a wire of its own. */
    private static SaggingNet star(int... loads) {
        SaggingNet x = new SaggingNet();
        x.spot(0, 0, 9);
        x.works(0, 5000, 0);
        for (int i = 0; i < loads.length; i++) {
            x.spot(0, loads[i], 9);
            x.wire(0, i + 1, 1, 5000, 100000);
        }
        return x;
    }

    /** From a MINUTE on (0 to NOW); NONE: no such ones. */
    private static void noSuchMinute() {
        SaggingNet x = star(5);
        Due.each("held at 0", m -> x.held(m, 0, 1), -1, Due.outside(0, 0));
        Due.each("least at 0", m -> x.least(m, 1), -1, Due.outside(0, 0));
        Due.due("held from NOW", x.held(0, 0, 1), 1);
        Due.due("least from NOW", x.least(0, 1), 0);
        x.goes();
        x.goes();
        Due.each("held at 2", m -> x.held(m, 0, 1), -1, Due.outside(0, 2));
        Due.each("least at 2", m -> x.least(m, 1), -1, Due.outside(0, 2));
        Due.each("held from each", m -> x.held(m, 0, 1), 1, 0, 1, 2);
        Due.each("least from each", m -> x.least(m, 1), 0, 0, 1, 2);
        Due.each("held from 499", m -> x.held(m, 0, 1), -1, 498, 499, 500);
    }

    /** A set of SPOTS: NONE: no such ones. */
    private static void noSuchSet() {
        SaggingNet none = new SaggingNet();
        Due.each("of no spots", set -> none.held(0, set, 1), -1, Due.outside(0, 0));
        Due.each("of no spots the last", set -> none.last(set, 1), -1, Due.outside(0, 0));
        Due.due("but the empty one", none.held(0, 0, 1), 1);
        Due.due("but the empty one the last", none.last(0, 1), 0);
        SaggingNet two = star(5);
        Due.each("of two spots", set -> two.held(0, set, 1), -1, Due.outside(0, 3));
        Due.each("of two spots the last", set -> two.last(set, 1), -1, Due.outside(0, 3));
        Due.each("each of two", set -> two.held(0, set, 1), 1, 0, 1, 2, 3);
        Due.each("each of two the last", set -> two.last(set, 1), 0, 0, 1, 2, 3);
        SaggingNet eight = star(1, 2, 3, 4, 5, 6, 7);
        Due.each("of eight spots", set -> eight.held(0, set, 1), -1, Due.outside(0, 255));
        Due.each("of eight spots the last", set -> eight.last(set, 1), -1, Due.outside(0, 255));
        Due.each("all of eight", set -> eight.held(0, set, 1), 1, 0, 128, 255);
    }

    /** For so many MINUTES (1 to 30). */
    private static void noSuchMinutes() {
        SaggingNet x = star(5);
        Due.each("held for", n -> x.held(0, 0, n), -1, Due.outside(1, 30));
        Due.each("last for", n -> x.last(0, n), -1, Due.outside(1, 30));
        Due.each("least for", n -> x.least(0, n), -1, Due.outside(1, 30));
        Due.each("cut for", n -> x.cut(0, n, 0), -1, Due.outside(1, 30));
        Due.each("cut for, 1", n -> x.cut(0, n, 1), -1, Due.outside(1, 30));
        Due.each("held", n -> x.held(0, 0, n), 1, 1, 30);
        Due.each("last", n -> x.last(0, n), 0, 1, 30);
        Due.each("least", n -> x.least(0, n), 0, 1, 30);
        Due.each("cut", n -> x.cut(0, n, 0), 0, 1, 30);
        // Just the 30th: m is 29 in it.
        Due.rules(x, "t(m=29)");
        Due.due("29 minutes", x.held(0, 0, 29), 1);
        Due.due("30 minutes", x.held(0, 0, 30), 0);
        Due.due("29 minutes", x.last(0, 29), 0);
        Due.due("30 minutes", x.last(0, 30), -1);
        Due.due("29 minutes", x.least(0, 29), 0);
        Due.due("30 minutes", x.least(0, 30), -2);
        Due.rules(x, "t(m=0)");
        Due.due("the first counts", x.held(0, 0, 1), 0);
    }

    /** As it was when it began, NOW: as it is now. */
    private static void asItWasWhenItBegan() {
        SaggingNet x = star(5, 7);
        Due.rules(x, "o(g>10)");
        x.shed(1, true);
        x.goes();
        x.shed(1, false);
        Due.due("at 0 spot 1 was SHED", x.held(0, 0, 1), 1);
        Due.due("now it is not", x.held(1, 0, 1), 0);
        x.load(2, 0);
        Due.due("now there is less", x.held(1, 0, 1), 1);
        x.run(0, false);
        Due.due("now there are no works", x.held(1, 0, 1), 0);
        Due.due("at 0 there were", x.held(0, 0, 1), 1);
        x.load(1, 0);
        x.goes();
        Due.due("at 1 all was as it is left", x.held(1, 0, 1), 1);
        x.load(1, 9);
        Due.due("what is done at 2 was not at 1", x.held(1, 0, 1), 1);
        Due.due("but is now", x.held(2, 0, 1), 0);
        SaggingNet y = ByHandTest.twoSpots();
        y.cool(0);
        y.goes();
        y.tree(0, 750);
        Due.due("warm by 125, with a TREE", y.held(1, 0, 1), 0);
        Due.due("cold, without one", y.held(0, 0, 30), 1);
        y.turn(0, false);
        y.shed(1, true);
        Due.due("OFF now", y.held(1, 0, 30), 1);
    }

    private static void nothingStays() {
        SaggingNet x = ByHandTest.twoSpots();
        x.cool(0);
        x.tree(0, 875);
        Due.rules(x, "o(m=1)");
        Due.due("it would be DOWN", x.held(0, 0, 1), 0);
        Due.due("with spot 1 SHED the works go", x.held(0, 2, 2), 0);
        Due.due("the last", x.last(2, 1), 0);
        Due.due("the least", x.least(0, 1), 2);
        Due.due("the cut", x.cut(1, 2, 0), 1);
        Due.due("ON", x.wireIs(0, 0), 0);
        Due.due("cold", x.wireIs(0, 1), 0);
        Due.due("its TREE", x.wireIs(0, 2), 875);
        Due.due("works ON", x.worksAre(0, 0), 1);
        Due.due("spot 1 LIT", x.spotIs(1, 1), 0);
        Due.due("NOW", x.count(0), 0);
        Due.due("no EVENTS", x.count(4), 0);
        Due.due("nothing shown", x.shown(0, 0, 0), -1);
        Due.due("nothing went by", x.bear(0), -1);
    }

    /** n as it was when the MINUTE began, whatever was PLAYED ahead of it. */
    private static void nAsItWas() {
        SaggingNet x = star(5, 5, 5);
        Due.rules(x, "t(m=0&i<2)");
        Due.due("two are TRIPPED", x.goes(), 2);
        x.shed(1, true);
        x.shed(2, true);
        Due.due("nothing at 1", x.goes(), 0);
        Due.rules(x, "o(n=2)");
        Due.due("n was 0 at 0", x.held(0, 0, 1), 1);
        Due.due("n was 2 at 1", x.held(1, 0, 1), 0);
        Due.due("n is 0 now", x.held(2, 0, 1), 1);
        Due.due("n was 2 at 1", x.held(1, 0, 1), 0);
        Due.due("n was 0 at 0", x.held(0, 0, 1), 1);
        Due.due("the last", x.last(0, 1), 2);
        Due.due("the least at 1", x.least(1, 1), -2);
        Due.due("and now n is 0 still", x.goes(), 0);
        Due.rules(x, "t(m=3&i=2);o(n=1)");
        Due.due("one is TRIPPED at 3", x.goes(), 1);
        Due.due("n was 0 at 2", x.held(2, 0, 1), 1);
        Due.due("n is 1 now, and spot 3 dark", x.goes(), 2);
        // Of the two that came then, the works' going was by n, and that stays.
        Due.due("led to by wire 2", x.event(3, 3), 2);
        Due.due("not led to: n is as it was", x.event(4, 3), -1);
    }

    private static void theTextAndCoolAsTheyAreNow() {
        SaggingNet x = ByHandTest.twoSpots();
        x.cool(0);
        x.tree(0, 875);
        Due.due("125 at once", x.held(0, 0, 1), 0);
        x.cool(1);
        Due.due("124 at once", x.held(0, 0, 1), 1);
        Due.due("248 then", x.held(0, 0, 2), 0);
        x.cool(125);
        Due.due("never", x.held(0, 0, 30), 1);
        Due.rules(x, "t(f>l*100)");
        Due.due("by a TEXT", x.held(0, 0, 1), 0);
        Due.rules(x, "t(f>l*100&d=0)");
        Due.due("not when something is SHED", x.held(0, 1, 30), 1);
        Due.due("else it is", x.held(0, 0, 1), 0);
    }

    /** Past 499, too. */
    private static void pastTheLastMinute() {
        SaggingNet x = star(5);
        for (int m = 0; m < 490; m++) {
            x.goes();
        }
        Due.rules(x, "t(m=500)");
        Due.due("to 499", x.held(490, 0, 10), 1);
        Due.due("to 500", x.held(490, 0, 11), 0);
        Due.due("from 471 on", x.last(0, 30), 470);
        Due.due("nothing helps", x.least(490, 11), -2);
        Due.rules(x, "o(m=519)");
        Due.due("to 518", x.held(490, 0, 29), 1);
        Due.due("to 519", x.held(490, 0, 30), 0);
    }

    /** HELD: if no EVENT comes, of any KIND. */
    private static void noEventComes() {
        SaggingNet shed = star(5);
        shed.load(1, 0);
        shed.run(0, false);
        Due.due("nothing", shed.held(0, 0, 30), 1);
        shed.load(1, 1);
        Due.due("a SPOT SHED", shed.held(0, 0, 1), 0);
        Due.due("it is SHED ahead", shed.held(0, 2, 30), 1);
        SaggingNet down = star(5);
        down.tree(0, 100000);
        Due.due("DOWN", down.held(0, 0, 1), 0);
        Due.due("whatever is SHED", down.held(0, 3, 1), 0);
        SaggingNet tripped = star(5);
        Due.rules(tripped, "t(1=1)");
        Due.due("TRIPPED", tripped.held(0, 0, 1), 0);
        SaggingNet off = star(5);
        Due.rules(off, "o(1=1)");
        Due.due("WORKS OFF", off.held(0, 0, 1), 0);
    }

    /** Those that are SHED already stay so. */
    private static void shedAlreadyStaysSo() {
        SaggingNet x = star(6, 6);
        Due.rules(x, "o(g>6)");
        Due.due("12 are too many", x.held(0, 0, 1), 0);
        x.shed(1, true);
        Due.due("one is SHED", x.held(0, 0, 1), 1);
        Due.due("the set has it, too", x.held(0, 2, 1), 1);
        Due.due("the set has the other", x.held(0, 4, 1), 1);
        Due.due("it is SHED still", x.spotIs(1, 1), 1);
        Due.due("the other is not", x.spotIs(2, 1), 0);
    }

    /** THE LAST: the greatest MINUTE from which a set HELD. */
    private static void theGreatestMinute() {
        SaggingNet x = star(5);
        int[] loads = {1, 9, 1, 9, 9};
        for (int load : loads) {
            x.load(1, load);
            x.goes();
        }
        Due.rules(x, "o(g>5)");
        Due.due("now 9", x.last(0, 1), 2);
        x.load(1, 5);
        Due.due("now 5", x.last(0, 1), 5);
        x.load(1, 9);
        Due.due("with spot 1 SHED", x.last(2, 1), 5);
        Due.due("with spot 0 SHED", x.last(1, 30), 2);
        SaggingNet first = star(5);
        first.goes();
        first.load(1, 9);
        first.goes();
        Due.rules(first, "o(g>5)");
        Due.due("the first", first.last(0, 1), 0);
    }

    /** NONE: there is none. */
    private static void thereIsNoLast() {
        SaggingNet x = star(5);
        Due.rules(x, "o(1=1)");
        Due.due("none at 0", x.last(0, 1), -1);
        x.goes();
        x.run(0, true);
        x.goes();
        x.run(0, true);
        Due.each("none of three", set -> x.last(set, 1), -1, 0, 1, 2, 3);
        x.run(0, false);
        Due.due("without works spot 1 is SHED", x.last(0, 1), -1);
        Due.due("but not if it is ahead of it", x.last(2, 1), 2);
    }

    /** -2: there is none. */
    private static void thereIsNoLeast() {
        SaggingNet x = star(5);
        Due.rules(x, "o(1=1)");
        Due.each("none", n -> x.least(0, n), -2, 1, 30);
        x.run(0, false);
        Due.due("without works spot 1", x.least(0, 30), 2);
        SaggingNet none = new SaggingNet();
        Due.each("no spots: the empty one", n -> none.least(0, n), 0, 1, 30);
    }

    private static void leastOfEightSpots() {
        SaggingNet x = star(1, 1, 1, 1, 1, 1, 1);
        x.run(0, false);
        Due.due("all that have a LOAD", x.least(0, 1), 254);
        x.load(0, 1);
        Due.due("all", x.least(0, 1), 255);
        x.shed(0, true);
        Due.due("what is SHED is not needed", x.least(0, 1), 254);
        x.load(7, 0);
        Due.due("what has no LOAD is not needed", x.least(0, 1), 126);
    }

    /** Of least LOADS together; of like ones of fewest SPOTS; of like ones the least, as bits. */
    private static void leastLoadsThenSpotsThenBits() {
        SaggingNet x = star(10, 10, 20, 19, 20);
        Due.rules(x, "o(g>59)");
        // 79 are to give: 20 must go. 19 are too few.
        Due.due("20 by one SPOT, the lowest of two", x.least(0, 1), 8);
        x.shed(3, true);
        Due.due("nothing must go", x.least(0, 1), 0);
        x.shed(3, false);
        x.load(3, 21);
        x.load(5, 21);
        // 81: 22 must go; 29 by two, 31, 21 is too little.
        Due.due("22 by 10 and 19", x.least(0, 1), 2 | 16);
        x.load(2, 3);
        // 74: 15 must go; 19 by one; 13 by two.
        Due.due("19 by one", x.least(0, 1), 16);
        x.load(4, 24);
        // 79: 20 must go; 21 by spot 3 or 5.
        Due.due("21 by the lower one", x.least(0, 1), 8);
        SaggingNet y = star(5, 5, 5, 5, 10);
        Due.rules(y, "o(g>10)");
        Due.due("20: 10 and two of 5", y.least(0, 1), 32 | 2 | 4);
        y.shed(5, true);
        Due.due("10: the lowest two", y.least(0, 1), 2 | 4);
    }

    /** LOADS of its SPOTS that are not SHED then. */
    private static void leastByThen() {
        SaggingNet x = star(5, 8);
        Due.rules(x, "o(g>8)");
        x.shed(2, true);
        x.load(1, 9);
        Due.due("9 go, the other is SHED", x.least(0, 1), 2);
        x.run(0, false);
        x.goes();
        x.run(0, true);
        x.shed(1, false);
        x.shed(2, false);
        Due.due("17: 9 must go", x.least(1, 1), 2);
        x.load(1, 8);
        Due.due("16: 8 must go", x.least(1, 1), 2);
        x.load(2, 7);
        Due.due("15: 7 must go", x.least(1, 1), 4);
        Due.due("at 0 there were no works for 9", x.least(0, 1), 2);
    }

    /** The COST of WIRE w (1 to 1000; 1 at first): true; false: no such ones. */
    private static void noSuchCost() {
        SaggingNet x = star(5, 5);
        Due.says("cost of wire", w -> x.cost(w, 5), false, Due.outside(0, 1));
        Due.says("cost so high", n -> x.cost(1, n), false, Due.outside(1, 1000));
        Due.due("1 at first", x.count(21), 1);
        Due.due("the greatest", x.cost(1, 1000), true);
        Due.due("it is", x.count(21), 1000);
        Due.due("the other stays", x.count(20), 1);
        Due.due("the least", x.cost(1, 1), true);
        Due.due("it is", x.count(21), 1);
        Due.due("the same again", x.cost(1, 1), true);
    }

    /** Money (0 to 10000), what 0 the set, 1 LOADS that are SHED at the end; NONE: no such ones. */
    private static void noSuchMoney() {
        SaggingNet x = star(5, 5);
        x.tree(0, 100000);
        for (int what = 0; what < 2; what++) {
            int asked = what;
            Due.each("money for " + what, money -> x.cut(money, 2, asked), -1, Due.outside(0, 10000));
        }
        Due.each("what", what -> x.cut(5, 2, what), -1, Due.outside(0, 1));
        Due.due("the least money: nothing", x.cut(0, 2, 0), 0);
        Due.due("so 5 are SHED", x.cut(0, 2, 1), 5);
        Due.due("the greatest", x.cut(10000, 2, 0), 1);
        Due.due("nothing is SHED", x.cut(10000, 2, 1), 0);
        SaggingNet none = new SaggingNet();
        Due.each("of no wires", what -> none.cut(0, 1, what), 0, 0, 1);
    }

    /** Whose COSTS together are not above it. */
    private static void notAboveTheMoney() {
        SaggingNet x = star(5, 5, 5);
        for (int w = 0; w < 3; w++) {
            x.tree(w, 100000);
            x.cost(w, 1000);
        }
        int[] moneys = {0, 999, 1000, 1999, 2000, 2999, 3000, 10000};
        int[] due = {0, 0, 1, 1, 3, 3, 7, 7};
        for (int i = 0; i < moneys.length; i++) {
            Due.due("for " + moneys[i], x.cut(moneys[i], 2, 0), due[i]);
            Due.due("SHED for " + moneys[i], x.cut(moneys[i], 2, 1), 15 - 5 * Integer.bitCount(due[i]));
        }
    }

    /** WIRES that are ON and have a TREE. */
    private static void onAndWithATree() {
        SaggingNet x = star(5, 5, 5, 5);
        x.turn(0, false);
        x.tree(0, 100000);
        x.tree(1, 100000);
        Due.rules(x, "t(m=0&i=2)");
        x.tree(2, 1);
        Due.due("spot 1, wires 1 and 2", x.goes(), 3);
        x.tree(3, 100000);
        for (int s = 1; s < 5; s++) {
            x.shed(s, false);
        }
        Due.due("OFF, DOWN, TRIPPED can't be cut", x.cut(10000, 2, 0), 8);
        Due.due("so theirs are SHED", x.cut(10000, 2, 1), 15);
        x.mend(1);
        x.turn(1, true);
        Due.due("MENDED and ON it can", x.cut(10000, 2, 0), 2 | 8);
        Due.due("its TREE stays", x.wireIs(1, 2), 100000);
        x.tree(3, 0);
        Due.due("without a TREE there is nothing to cut", x.cut(10000, 2, 0), 2);
    }

    /** Of the eight lowest. */
    private static void theEightLowest() {
        SaggingNet x = new SaggingNet();
        x.spot(0, 0, 9);
        x.spot(0, 4, 9);
        x.spot(0, 3, 9);
        x.works(0, 9, 0);
        // Wire 8 alone goes to spot 1, wire 9 alone to spot 2.
        for (int w = 0; w < 10; w++) {
            x.wire(0, w < 8 ? w % 2 + 1 : w - 7, 1, 5000, 100000);
        }
        for (int w = 0; w < 8; w++) {
            x.turn(w, false);
        }
        x.tree(8, 100000);
        x.tree(9, 100000);
        Due.due("two trees, those that are OFF do not count", x.cut(10000, 2, 0), 256 | 512);
        for (int w = 0; w < 7; w++) {
            x.turn(w, true);
            x.tree(w, 1);
        }
        Due.due("nine trees: 8 is the eighth", x.cut(10000, 2, 0), 0);
        Due.rules(x, "t(i<7)");
        Due.due("by it spot 1 is LIT", x.cut(10000, 2, 0), 256);
        Due.due("spot 2 is SHED: wire 9 is the ninth", x.cut(10000, 2, 1), 3);
        x.tree(3, 0);
        Due.due("now wire 9 is the eighth", x.cut(10000, 2, 0), 256 | 512);
        Due.due("nothing is SHED", x.cut(10000, 2, 1), 0);
    }

    /** Fewest LOADS SHED; of like ones of least COSTS; of like ones the least, as bits of WIRES. */
    private static void cutOfLikeOnes() {
        SaggingNet x = new SaggingNet();
        x.spot(0, 0, 9);
        x.spot(0, 40, 9);
        x.spot(0, 7, 9);
        x.works(0, 100, 0);
        for (int w = 0; w < 4; w++) {
            x.wire(0, w < 3 ? 1 : 2, 1, 5000, 100000);
            x.tree(w, 100000);
        }
        // One of wires 0, 1, 2 is enough for 40; wire 3 for 7.
        int[][] costs = {{5, 4, 4, 1}, {4, 4, 4, 1}, {3, 2, 1, 9}, {1, 2, 3, 9}};
        int[] forTen = {2 | 8, 1 | 8, 4 | 8, 1 | 8};
        int[] forFour = {2, 1, 4, 1};
        int[] forOne = {8, 8, 4, 1};
        for (int i = 0; i < costs.length; i++) {
            for (int w = 0; w < 4; w++) {
                x.cost(w, costs[i][w]);
            }
            Due.due("for 10: " + i, x.cut(10, 2, 0), forTen[i]);
            Due.due("nothing is SHED: " + i, x.cut(10, 2, 1), 0);
            Due.due("for 4: " + i, x.cut(4, 2, 0), forFour[i]);
            Due.due("7 are SHED: " + i, x.cut(4, 2, 1), 7);
            Due.due("for 1: " + i, x.cut(1, 2, 0), forOne[i]);
            Due.due("SHED for 1: " + i, x.cut(1, 2, 1), forOne[i] == 8 ? 40 : 7);
        }
        x.shed(2, true);
        Due.due("what is SHED already is not paid for", x.cut(10, 2, 0), 1);
        Due.due("but counts", x.cut(10, 2, 1), 7);
    }

    /** LOADS that are SHED at the end. */
    private static void shedAtTheEnd() {
        SaggingNet x = star(5, 6);
        x.tree(0, 100000);
        Due.due("DOWN in the first MINUTE, not yet SHED", x.cut(0, 1, 1), 0);
        Due.due("SHED in the second", x.cut(0, 2, 1), 5);
        Due.due("nothing to win in one", x.cut(1, 1, 0), 0);
        Due.due("in two there is", x.cut(1, 2, 0), 1);
        x.shed(2, true);
        Due.due("by hand as well", x.cut(0, 1, 1), 6);
        Due.due("together", x.cut(0, 2, 1), 11);
        Due.due("nothing is so then", x.spotIs(1, 1) + x.wireIs(0, 0) + x.count(0), 0);
        Due.due("no TREE is cut", x.wireIs(0, 2), 100000);
    }
}
