/** Promises 25 to 27, 34 and 35: what is PLAYED: HELD, THE LAST, THE LEAST and THE CUT. */
public final class PlayedTest {
    public static void main(String[] args) {
        held();
        byTextAndCoolOfNow();
        nothingStays();
        last();
        least();
        leastOfLikeOnes();
        costs();
        cut();
        cutOfLikeOnes();
        eightLowest();
        Due.end();
    }

    /** With COOL 0 wire 0 (room 1000, tree 500) warms by 125 a MINUTE: it is down in the fourth. */
    private static SaggingNet warming() {
        SaggingNet x = ByHandTest.twoSpots();
        x.cool(0);
        x.tree(0, 500);
        return x;
    }

    private static void held() {
        SaggingNet x = warming();
        Due.due("three minutes", x.held(0, 0, 3), 1);
        Due.due("four", x.held(0, 0, 4), 0);
        Due.due("without spot 1", x.held(0, 2, 30), 1);
        Due.due("without spot 0: it flows all the same", x.held(0, 1, 30), 0);
        Due.due("minutes 0", x.held(0, 0, 0), -1);
        Due.due("minutes 31", x.held(0, 0, 31), -1);
        Due.due("set -1", x.held(0, -1, 1), -1);
        Due.due("set 4", x.held(0, 4, 1), -1);
        Due.due("set 3", x.held(0, 3, 1), 1);
        Due.due("minute 1", x.held(1, 0, 1), -1);
        Due.due("minute -1", x.held(-1, 0, 1), -1);
        x.goes();
        x.goes();
        Due.due("from 2 on, two more", x.held(2, 0, 1), 1);
        Due.due("and down", x.held(2, 0, 2), 0);
        Due.due("minute 3", x.held(3, 0, 1), -1);
        x.shed(1, true);
        Due.due("shed already stays so", x.held(2, 0, 30), 1);
        Due.due("but not at 0", x.held(0, 0, 30), 0);
        x.shed(1, false);
        // What was done by hand within a MINUTE was so when it began to go by.
        x.tree(0, 0);
        x.goes();
        Due.due("minute 2 had no tree then", x.held(2, 0, 30), 1);
        Due.due("minute 1 had one", x.held(1, 0, 30), 0);
    }

    private static void byTextAndCoolOfNow() {
        SaggingNet x = warming();
        x.goes();
        x.cool(125);
        Due.due("by COOL as it is now", x.held(0, 0, 30), 1);
        Due.rules(x, "t(m=12)");
        Due.due("by the TEXT as it is now", x.held(0, 0, 13), 0);
        Due.due("not before", x.held(0, 0, 12), 1);
        Due.rules(x, "o(m>5)");
        Due.due("works off is an event", x.held(0, 0, 7), 0);
        Due.due("six minutes", x.held(0, 0, 6), 1);
        Due.rules(x, "t(n=1)");
        Due.due("n was 0", x.held(1, 0, 30), 1);
        Due.rules(x, "t(d=50)");
        Due.due("a shed spot counts", x.held(0, 2, 1), 0);
        Due.rules(x, "t(m>499)");
        for (int i = 1; i < 499; i++) {
            x.goes();
        }
        Due.due("up to 499", x.held(499, 0, 1), 1);
        Due.due("and past it", x.held(499, 0, 2), 0);
    }

    private static void nothingStays() {
        SaggingNet x = warming();
        x.held(0, 1, 30);
        x.last(3, 30);
        x.least(0, 30);
        x.cut(0, 30, 0);
        Due.due("warmth", x.wireIs(0, 1), 0);
        Due.due("how it is", x.wireIs(0, 0), 0);
        Due.due("tree", x.wireIs(0, 2), 500);
        Due.due("shed", x.spotIs(0, 1), 0);
        Due.due("now", x.count(0), 0);
        Due.due("events", x.count(4), 0);
    }

    private static void last() {
        SaggingNet x = warming();
        for (int i = 0; i < 5; i++) {
            x.goes();
        }
        Due.due("nothing shed: two minutes from", x.last(0, 2), 5);
        Due.due("of spot 1", x.last(2, 30), 5);
        Due.due("minutes 0", x.last(0, 0), -1);
        Due.due("minutes 31", x.last(0, 31), -1);
        Due.due("set 4", x.last(4, 1), -1);
        Due.due("set -1", x.last(-1, 1), -1);
        x.mend(0);
        x.turn(0, true);
        x.shed(1, false);
        Due.due("now it would go down at once", x.last(0, 1), 2);
        Due.due("three minutes", x.last(0, 3), 0);
        Due.due("four: none", x.last(0, 4), -1);
        Due.due("as warm as that nothing helps, but while it was down", x.last(2, 1), 4);
    }

    private static void least() {
        SaggingNet x = warming();
        Due.due("nothing for three", x.least(0, 3), 0);
        Due.due("spot 1 for four", x.least(0, 4), 2);
        Due.due("minutes 0", x.least(0, 0), -1);
        Due.due("minutes 31", x.least(0, 31), -1);
        Due.due("minute 1", x.least(1, 1), -1);
        Due.due("minute -1", x.least(-1, 1), -1);
        Due.rules(x, "o(m=0)");
        Due.due("there is none", x.least(0, 1), -2);
        SaggingNet none = new SaggingNet();
        Due.rules(none, "o(m=0)");
        Due.due("no spots, nothing comes", none.least(0, 30), 0);
    }

    /** One source; three spots at it by a wire each; the guard trips a wire that carries too much. */
    private static SaggingNet star(int first, int second, int third) {
        SaggingNet x = new SaggingNet();
        x.spot(0, 0, 9);
        x.spot(0, first, 9);
        x.spot(0, second, 9);
        x.spot(0, third, 9);
        x.works(0, 5000, 0);
        for (int s = 1; s < 4; s++) {
            x.wire(0, s, 1, 5000, 100000);
        }
        return x;
    }

    private static void leastOfLikeOnes() {
        SaggingNet x = star(30, 20, 10);
        // WORKS have no more than 30 to give: 30 of 60 must go.
        Due.rules(x, "o(g>30)");
        Due.due("30 at once or 20 and 10: fewest spots", x.least(0, 1), 2);
        x.shed(3, true);
        Due.due("20 left to shed", x.least(0, 1), 4);
        SaggingNet y = star(20, 20, 20);
        Due.rules(y, "o(g>40)");
        Due.due("the least as bits", y.least(0, 1), 2);
        SaggingNet z = star(20, 20, 40);
        Due.rules(z, "o(g>45)");
        Due.due("40 by one, not by two", z.least(0, 1), 8);
        z.load(3, 39);
        Due.due("least loads", z.least(0, 1), 8);
        z.load(3, 41);
        Due.due("two with less", z.least(0, 1), 6);
        z.shed(1, true);
        z.shed(2, true);
        Due.due("those shed already cost nothing and are not needed", z.least(0, 1), 0);
        z.goes();
        z.load(3, 2000);
        z.shed(1, false);
        Due.due("by the loads of then", z.least(0, 1), 0);
        Due.due("and of now", z.least(1, 1), 8);
    }

    private static void costs() {
        SaggingNet x = ByHandTest.twoSpots();
        Due.due("cost 0", x.cost(0, 0), false);
        Due.due("cost 1001", x.cost(0, 1001), false);
        Due.due("no wire 1", x.cost(1, 1), false);
        Due.due("no wire -1", x.cost(-1, 1), false);
        Due.due("as it was", x.count(20), 1);
        Due.due("cost 1000", x.cost(0, 1000), true);
        Due.due("it is", x.count(20), 1000);
        Due.due("no wire, no cost", x.count(21), -1);
        Due.due("19", x.count(19), -1);
    }

    private static void cut() {
        SaggingNet x = warming();
        Due.due("money -1", x.cut(-1, 1, 0), -1);
        Due.due("money 10001", x.cut(10001, 1, 0), -1);
        Due.due("minutes 0", x.cut(1, 0, 0), -1);
        Due.due("minutes 31", x.cut(1, 31, 0), -1);
        Due.due("what 2", x.cut(1, 1, 2), -1);
        Due.due("what -1", x.cut(1, 1, -1), -1);
        Due.due("four minutes: down, but not yet dark", x.cut(1, 4, 0), 0);
        Due.due("dark", x.cut(1, 4, 1), 0);
        Due.due("five: it is cut", x.cut(1, 5, 0), 1);
        Due.due("and lit", x.cut(1, 5, 1), 0);
        x.cost(0, 10000);
        x.cost(0, 1000);
        Due.due("no money", x.cut(999, 5, 0), 0);
        Due.due("dark", x.cut(999, 5, 1), 50);
        Due.due("just enough", x.cut(1000, 30, 0), 1);
        x.shed(0, true);
        Due.due("what is shed by hand counts", x.cut(1000, 30, 1), 100);
        x.turn(0, false);
        Due.due("off: not to be cut", x.cut(10000, 30, 0), 0);
    }

    private static void cutOfLikeOnes() {
        SaggingNet least = new SaggingNet();
        least.spot(0, 0, 9);
        least.spot(0, 30, 9);
        least.works(0, 30, 9);
        least.wire(0, 1, 1, 5000, 1);
        least.tree(0, 1);
        Due.due("a tree of 1, a room of 1", least.cut(1, 2, 0), 1);
        SaggingNet x = star(10, 20, 20);
        for (int w = 0; w < 3; w++) {
            x.tree(w, 100000);
            x.cost(w, w == 0 ? 1 : 2);
        }
        Due.due("nothing for 0", x.cut(0, 2, 0), 0);
        Due.due("all dark", x.cut(0, 2, 1), 50);
        Due.due("the cheap one for 1", x.cut(1, 2, 0), 1);
        Due.due("the first of like ones for 2", x.cut(2, 2, 0), 2);
        Due.due("dark", x.cut(2, 2, 1), 30);
        Due.due("both for 3", x.cut(3, 2, 0), 3);
        Due.due("the two great ones for 4", x.cut(4, 2, 0), 6);
        Due.due("all for 5", x.cut(5, 2, 0), 7);
        Due.due("all lit", x.cut(10000, 2, 1), 0);
        x.load(3, 0);
        Due.due("what does not matter is not paid for", x.cut(5, 2, 0), 3);
        x.cost(1, 1);
        x.load(1, 20);
        Due.due("of least costs", x.cut(1, 2, 0), 1);
    }

    private static void eightLowest() {
        SaggingNet x = new SaggingNet();
        x.spot(0, 0, 9);
        x.spot(0, 5, 9);
        x.spot(0, 5, 9);
        x.works(0, 100, 0);
        for (int w = 0; w < 11; w++) {
            x.wire(0, w == 10 ? 2 : 1, 1, 5000, 100000);
            x.tree(w, 100000);
        }
        Due.due("wire 10 is not of the eight", x.cut(10000, 2, 0), 1);
        Due.due("so spot 2 is dark", x.cut(10000, 2, 1), 5);
        x.tree(0, 0);
        x.turn(1, false);
        Due.due("2 to 9 are the eight", x.cut(10000, 2, 0), 0);
        x.tree(5, 0);
        Due.due("now it is", x.cut(10000, 2, 0), 1024);
        Due.due("all lit", x.cut(10000, 2, 1), 0);
    }
}
