/** Promises 32, 33, 36 and 37: BEGIN AGAIN, CHECK and count. */
public final class AgainTest {
    public static void main(String[] args) {
        begins();
        noOrder();
        theOrder();
        byRank();
        hangTogether();
        leastRow();
        shedAndOff();
        nineWorks();
        check();
        count();
        Due.end();
    }

    private static void begins() {
        SaggingNet x = ByHandTest.twoSpots();
        Due.due("no works 1", x.begins(1, true, 10), false);
        Due.due("no works -1", x.begins(-1, true, 10), false);
        Due.due("minutes 0", x.begins(0, true, 0), false);
        Due.due("minutes 101", x.begins(0, true, 101), false);
        Due.due("not alone at first", x.again(-1), -2);
        Due.due("alone", x.begins(0, true, 1), true);
        Due.due("dark for a minute", x.again(-1), 150);
        Due.due("a hundred", x.begins(0, true, 100), true);
        Due.due("dark for a hundred", x.again(-1), 15000);
        Due.due("not alone", x.begins(0, false, 1), true);
        Due.due("then not at all", x.again(0), -2);
        SaggingNet nine = new SaggingNet();
        nine.spot(0, 100, 0);
        for (int k = 0; k < 9; k++) {
            nine.works(0, 1, 0);
        }
        nine.begins(0, true, 10);
        Due.due("ten minutes each at first", nine.again(-1), 9000);
    }

    private static void noOrder() {
        SaggingNet x = new SaggingNet();
        Due.due("no works", x.again(-1), -2);
        Due.due("no works, no place", x.again(0), -2);
        Due.due("no works, none below either", x.again(-2), -2);
        x.spot(0, 1, 1);
        x.spot(0, 1, 1);
        x.works(0, 5, 0);
        x.works(1, 5, 0);
        x.begins(0, true, 5);
        Due.due("1 is reached by none", x.again(-1), -2);
        Due.due("a place of none that can be", x.again(0), -2);
        Due.due("its last place", x.again(1), -2);
        Due.due("two have no place 2", x.again(2), -1);
        Due.due("nor place -2", x.again(-2), -1);
        Due.due("nor the least", x.again(Integer.MIN_VALUE), -1);
        Due.due("nor the greatest", x.again(Integer.MAX_VALUE), -1);
        x.begins(1, true, 5);
        // 2 for 5 minutes, then 1 for 5.
        Due.due("dark", x.again(-1), 15);
        Due.due("first", x.again(0), 0);
        Due.due("second", x.again(1), 1);
        Due.due("no place 2", x.again(2), -1);
        Due.due("no place -2", x.again(-2), -1);
    }

    /** Spot 0 (load 10, works 0 and 1), spot 1 (load 90, works 2), one wire. */
    private static SaggingNet threeWorks() {
        SaggingNet x = new SaggingNet();
        x.spot(0, 10, 1);
        x.spot(1, 90, 1);
        x.works(0, 10, 0);
        x.works(0, 20, 0);
        x.works(1, 100, 0);
        x.wire(0, 1, 1, 100, 1000);
        return x;
    }

    private static void theOrder() {
        SaggingNet x = threeWorks();
        x.begins(0, true, 10);
        x.begins(1, false, 10);
        x.begins(2, false, 10);
        // 0 first: 1000. Then 2 (110 in all): 90 more dark for 10: 900. Then 1: nothing is dark.
        Due.due("dark", x.again(-1), 1900);
        Due.due("first", x.again(0), 0);
        Due.due("second", x.again(1), 2);
        Due.due("third", x.again(2), 1);
        x.begins(2, false, 60);
        // 2 at once: 60 times 90; or 1 ahead of it: 900 and 5400.
        Due.due("slower", x.again(-1), 6400);
        x.begins(2, true, 12);
        // 2 first: 12 times 100, then all is lit.
        Due.due("alone and strong", x.again(-1), 1200);
        Due.due("first", x.again(0), 2);
        Due.due("of like ones the least row", x.again(1), 0);
        Due.due("then", x.again(2), 1);
    }

    private static void byRank() {
        SaggingNet x = new SaggingNet();
        x.spot(0, 30, 5);
        x.spot(0, 50, 9);
        x.spot(0, 20, 5);
        x.spot(0, 10, 5);
        x.works(0, 75, 0);
        x.works(0, 1, 0);
        for (int s = 1; s < 4; s++) {
            x.wire(0, s, 1, 100, 1000);
        }
        x.begins(0, true, 1);
        x.begins(1, false, 1);
        // 50 first, 30 does not fit, 20 does, 10 does not: 40 stay dark.
        Due.due("passed over", x.again(-1), 110 + 40);
        x.load(1, 40);
        // 40, 30; 20 and 10 do not fit into 75.
        Due.due("lowest of like rank", x.again(-1), 100 + 30);
        x.load(3, 5);
        // 40, 30, not 20, but 5.
        Due.due("just as much as there is", x.again(-1), 95 + 20);
    }

    private static void hangTogether() {
        SaggingNet x = threeWorks();
        x.begins(0, true, 10);
        x.turn(0, false);
        Due.due("off wires hang together", x.again(-1), 1900);
        Due.rules(x, "t(1=1)");
        x.turn(0, true);
        x.goes();
        Due.due("tripped", x.wireIs(0, 0), 2);
        Due.due("tripped ones, too", x.again(-1), 1900);
        x.turn(0, true);
        x.tree(0, 1000);
        x.goes();
        Due.due("down ones do not", x.again(-1), -2);
        x.begins(2, true, 10);
        // 2 first: 1000, then 90 are lit and 10 dark: 0, 100; then 1: nothing.
        Due.due("each for itself", x.again(-1), 1100);
        Due.due("first", x.again(0), 2);
        x.mend(0);
        x.begins(2, false, 10);
        Due.due("mended they do again", x.again(-1), 1900);
        SaggingNet y = new SaggingNet();
        y.spot(0, 60, 1);
        y.spot(0, 60, 9);
        y.works(0, 70, 0);
        y.works(1, 50, 0);
        y.begins(0, true, 1);
        y.begins(1, true, 1);
        // 70 at spot 0 do not light spot 1, for all its rank.
        Due.due("not what does not hang together", y.again(-1), 120 + 60);
        y.begins(1, true, 100);
        Due.due("but works at both count together", y.again(-1), 120 + 6000);
    }

    private static void leastRow() {
        SaggingNet x = new SaggingNet();
        x.spot(0, 0, 0);
        x.works(0, 5, 0);
        x.works(0, 5, 0);
        x.works(0, 5, 0);
        x.begins(2, true, 7);
        Due.due("no loads: nothing dark", x.again(-1), 0);
        Due.due("only 2 can be first", x.again(0), 2);
        Due.due("then 0", x.again(1), 0);
        Due.due("then 1", x.again(2), 1);
    }

    private static void shedAndOff() {
        SaggingNet x = threeWorks();
        x.begins(0, true, 10);
        x.shed(1, true);
        x.run(2, false);
        Due.due("all begin, all are dark", x.again(-1), 1900);
        x.load(1, 100);
        Due.due("by the loads of now", x.again(-1), 1100 + 1000);
        Due.due("nothing began", x.worksAre(2, 0), 0);
        Due.due("nothing is lit", x.spotIs(1, 1), 1);
    }

    private static void nineWorks() {
        SaggingNet x = new SaggingNet();
        x.spot(0, 2000, 5);
        x.spot(0, 2000, 5);
        x.spot(0, 2000, 5);
        x.wire(0, 1, 1, 1, 1);
        x.wire(1, 2, 1, 1, 1);
        for (int k = 0; k < 9; k++) {
            x.works(k % 3, 700, 0);
            x.begins(k, k == 4, 100);
        }
        // Of 6000 there are 2000 lit with the third works, 4000 with the sixth, all with the ninth.
        Due.due("dark", x.again(-1), 100L * (3 * 6000 + 3 * 4000 + 3 * 2000));
        Due.due("first", x.again(0), 4);
        Due.due("last", x.again(8), 8);
        Due.due("no tenth", x.again(9), -1);
    }

    private static void check() {
        SaggingNet x = ByHandTest.twoSpots();
        x.wire(1, 0, 1, 5, 5);
        Due.due("of an empty tape", x.check(0), 0);
        Due.due("check(1)", x.check(1), -2);
        Due.due("check(-1)", x.check(-1), -2);
        x.feed(0, 0, 0, 1, 0);
        Due.due("check(2) of 20 bytes", x.check(2), -2);
        Due.due("the tape stays", x.count(8), 20);
        x.feed(0, 0, 0, 0, 0);
        Due.due("right", x.check(2), -1);
        Due.due("the tape is empty", x.count(8), 0);
        x.feed(0, 0, 0, 1, 0);
        x.feed(0, 0, 0, 0, 0);
        Due.due("some are lacking", x.check(1), 3);
        Due.due("empty as well", x.count(8), 0);
        wrongAt(x, 0);
        wrongAt(x, 1);
        wrongAt(x, 2);
        wrongAt(x, 3);
        wrongAt(x, 4);
        wrongAt(x, 5);
        x.feed(0, 0, 0, 1, 0);
        x.feed(0, 2, 0, 0, 0);
        Due.due("there is no wire 2", x.check(3), 6);
        for (int i = 0; i < 10; i++) {
            x.feed(9, 9, 9, 9, 9);
        }
        Due.due("17 threes are more than can be", x.check(17), -2);
        Due.due("very many", x.check(Integer.MAX_VALUE), -2);
        Due.due("very many, as it turns below 0", x.check(357913942), -2);
        Due.due("16 can be", x.check(16), 0);
        x.cool(0);
        x.tree(0, 1000);
        x.goes();
        int warmth = x.wireIs(0, 1);
        int other = x.wireIs(1, 1);
        Due.due("two thirds of 50 through 40", warmth, 83);
        Due.due("a third of 50 through 5", other, 333);
        x.feed(0, 3, warmth, 1, 0);
        x.feed(other, 0, 0, 0, 0);
        Due.due("down and warm", x.check(2), -1);
        x.feed(0, 3, warmth + 256, 1, 0);
        x.feed(other, 0, 0, 0, 0);
        Due.due("by all four bytes", x.check(2), 2);
    }

    private static void wrongAt(SaggingNet x, int place) {
        int[] is = {0, 0, 0, 1, 0, 0, 0, 0, 0, 0};
        is[place] ^= 1 << 5 * place;
        x.feed(is[0], is[1], is[2], is[3], is[4]);
        x.feed(is[5], is[6], is[7], is[8], is[9]);
        Due.due("wrong at " + place, x.check(2), place);
    }

    private static void count() {
        SaggingNet x = threeWorks();
        x.goes();
        x.goes();
        x.shed(1, true);
        x.shed(0, true);
        Due.rules(x, "t(1=1);t(1=1);o(1=1)");
        x.goes();
        x.row(0, 1);
        x.row(0, 1);
        x.row(0, 1);
        x.before(0, 1);
        x.before(0, 1);
        x.feed(1, 2, 3, 4, 5);
        x.cool(33);
        x.cost(0, 44);
        int[] due = {3, 2, 1, 3, 4, 3, 3, 2, 20, 33, 100};
        for (int what = 0; what < due.length; what++) {
            Due.due("count " + what, x.count(what), due[what]);
        }
        for (int what = 11; what < 20; what++) {
            Due.due("count " + what, x.count(what), -1);
        }
        Due.due("cost of wire 0", x.count(20), 44);
        Due.due("no wire 1", x.count(21), -1);
        Due.due("count -1", x.count(-1), -1);
        Due.due("count of the least number", x.count(Integer.MIN_VALUE), -1);
        Due.due("count of the greatest", x.count(Integer.MAX_VALUE), -1);
    }
}
