/** Promises 32, 33, 36 and 37, sentence by sentence: ORDERS there are and are not, CHECK by too few and too many. */
public final class EdgesOfAgainTest {
    public static void main(String[] args) {
        noSuchBegins();
        tenAtFirst();
        noWorks();
        noOrder();
        noSuchPlace();
        aloneAtAnyTime();
        notDown();
        notLessThanTheLoads();
        passedOver();
        highestRankLowestNumber();
        mostOfAllThatRun();
        leastDark();
        theLeastRow();
        theGreatestDark();
        itHasNotSoMany();
        someAreLacking();
        moreThanThereAre();
        theFirstThatIsNotSo();
        eachByteCounts();
        howTheyAreAndHowWarm();
        countsOfAll();
        noSuchCount();
        Due.end();
    }

    /** One SPOT with this LOAD and as many WORKS of MOST 10 at it, not one of them ALONE. */
    private static SaggingNet worksAtOne(int load, int many) {
        SaggingNet x = new SaggingNet();
        x.spot(0, load, 5);
        for (int k = 0; k < many; k++) {
            x.works(0, 10, 0);
        }
        return x;
    }

    /** In so many minutes (1 to 100): true; false: no such ones. */
    private static void noSuchBegins() {
        SaggingNet x = worksAtOne(7, 1);
        Due.says("begins of works", k -> x.begins(k, true, 5), false, Due.outside(0, 0));
        Due.says("begins in", n -> x.begins(0, true, n), false, Due.outside(1, 100));
        Due.due("not ALONE by what is refused", x.again(-1), -2);
        Due.due("the least", x.begins(0, true, 1), true);
        Due.due("7 for a minute", x.again(-1), 7);
        Due.due("the greatest", x.begins(0, true, 100), true);
        Due.due("7 for a hundred", x.again(-1), 700);
        Due.says("not ALONE in", n -> x.begins(0, false, n), false, Due.outside(1, 100));
        Due.due("as it was", x.again(-1), 700);
        Due.due("not ALONE", x.begins(0, false, 100), true);
        Due.due("there is none", x.again(-1), -2);
        SaggingNet nine = worksAtOne(7, 9);
        Due.says("begins of nine", k -> nine.begins(k, true, 5), false, Due.outside(0, 8));
        Due.says("each of nine", k -> nine.begins(k, true, 5), true, 0, 1, 2, 3, 4, 5, 6, 7, 8);
        nine.goes();
        Due.due("when NOW is not 0", nine.begins(0, true, 6), true);
    }

    /** 10 at first; none ALONE. */
    private static void tenAtFirst() {
        for (int k = 0; k < 9; k++) {
            SaggingNet x = worksAtOne(1, 9);
            int other = (k + 1) % 9;
            Due.due("none ALONE", x.again(-1), -2);
            x.begins(other, true, 100);
            Due.due("with one in 100: it alone is first", x.again(-1), 100);
            SaggingNet y = worksAtOne(81, 9);
            for (int j = 0; j < 9; j++) {
                if (j != k) {
                    y.begins(j, true, 100);
                }
            }
            // 81 for nine of 10: all is dark till the last runs. Works k has its 10 minutes.
            Due.due("works " + k, y.again(-1), 81 * 810);
        }
    }

    /** -2: no WORKS. */
    private static void noWorks() {
        SaggingNet x = new SaggingNet();
        Due.each("nothing told", x::again, -2, -1, 0, 1, 8, 9);
        x.spot(0, 5, 5);
        x.spot(0, 5, 5);
        x.wire(0, 1, 1, 1, 1);
        Due.each("no works", x::again, -2, -1, 0, 1, 8, 9);
    }

    /** -2: there is none. */
    private static void noOrder() {
        SaggingNet x = worksAtOne(5, 3);
        Due.each("none ALONE", x::again, -2, -1, 0, 1, 2);
        x.begins(1, true, 10);
        Due.due("one is enough", x.again(0), 1);
        SaggingNet y = new SaggingNet();
        y.spot(0, 5, 5);
        y.spot(0, 5, 5);
        y.works(0, 10, 0);
        y.works(1, 10, 0);
        y.begins(0, true, 10);
        Due.each("the other hangs together with none", y::again, -2, -1, 0, 1);
        y.begins(1, true, 10);
        Due.due("both ALONE", y.again(-1), 10 * 10 + 5 * 10);
        y.begins(0, false, 10);
        Due.each("now the one does not", y::again, -2, -1, 0, 1);
    }

    /** NONE: no such place. */
    private static void noSuchPlace() {
        for (int many = 1; many <= 9; many++) {
            SaggingNet x = worksAtOne(5, many);
            for (int i = 0; i < 2; i++) {
                long first = i == 0 ? -2 : 0;
                Due.due("the first of " + many, x.again(0), first);
                Due.due("the last of " + many, x.again(many - 1), i == 0 ? -2 : many - 1);
                Due.each("places of " + many, x::again, -1, many, many + 1, 9, 10, -2, -3, 256, 1 << 17,
                        -(1 << 17), Integer.MIN_VALUE, Integer.MAX_VALUE);
                x.begins(0, true, 10);
            }
        }
    }

    /** Those that can ALONE, at any time. */
    private static void aloneAtAnyTime() {
        SaggingNet x = new SaggingNet();
        for (int s = 0; s < 3; s++) {
            x.spot(0, 10, 5);
            x.works(s, 10, 0);
            x.begins(s, true, 10 - s);
        }
        // 30 for 8, 20 for 9, 10 for 10: or 30 for 8, 20 for 9..., the short ones first.
        Due.due("DARK", x.again(-1), 30 * 8 + 20 * 9 + 10 * 10);
        Due.each("the shortest first", i -> x.again(i) + i, 2, 0, 1, 2);
        x.begins(1, false, 9);
        Due.due("one can't", x.again(-1), -2);
    }

    /** By WIRES that are not DOWN: ON, OFF, TRIPPED, MENDED. */
    private static void notDown() {
        SaggingNet x = new SaggingNet();
        x.spot(0, 10, 5);
        x.spot(0, 10, 5);
        x.spot(0, 10, 5);
        x.works(0, 30, 0);
        x.works(2, 30, 0);
        x.begins(0, true, 10);
        Due.due("no wires", x.again(-1), -2);
        x.wire(0, 1, 1, 1, 1);
        Due.due("not so far", x.again(-1), -2);
        x.wire(2, 1, 1, 1, 1);
        Due.due("ON", x.again(-1), 300);
        x.turn(0, false);
        Due.due("OFF", x.again(-1), 300);
        x.turn(0, true);
        Due.rules(x, "t(i=0)");
        x.goes();
        Due.due("TRIPPED", x.wireIs(0, 0), 2);
        Due.due("TRIPPED", x.again(-1), 300);
        x.tree(1, 100000);
        x.goes();
        Due.due("DOWN", x.wireIs(1, 0), 3);
        Due.due("DOWN", x.again(-1), -2);
        x.begins(1, true, 10);
        // 30, then 10 dark (spot 2), or 20: 0 and 1 hang together, so works 0 first.
        Due.due("each ALONE", x.again(-1), 300 + 100);
        x.begins(1, false, 10);
        x.mend(1);
        Due.due("MENDED", x.again(-1), 300);
    }

    /** As far as MOST of all that run, together, is not less than LOADS lit together. */
    private static void notLessThanTheLoads() {
        int[] loads = {9, 10, 11, 0, 20, 21};
        int[] due = {90, 100, 110 + 110, 0, 200 + 200, 210 + 210};
        for (int i = 0; i < loads.length; i++) {
            SaggingNet x = worksAtOne(loads[i], 2);
            x.begins(0, true, 10);
            Due.due("a LOAD of " + loads[i], x.again(-1), due[i]);
        }
        SaggingNet three = worksAtOne(10, 3);
        three.begins(0, true, 10);
        Due.due("10 by the first", three.again(-1), 100);
        three.load(0, 11);
        Due.due("11 by the second", three.again(-1), 220);
        three.load(0, 20);
        Due.due("20 by the second", three.again(-1), 400);
        three.load(0, 21);
        Due.due("21 by the third", three.again(-1), 630);
    }

    /** What doesn't fit is passed over. */
    private static void passedOver() {
        SaggingNet x = new SaggingNet();
        int[] loads = {6, 5, 4, 1};
        for (int s = 0; s < 4; s++) {
            x.spot(0, loads[s], 9 - s);
        }
        for (int s = 1; s < 4; s++) {
            x.wire(0, s, 1, 1, 1);
        }
        x.works(0, 10, 0);
        x.works(0, 10, 0);
        x.begins(0, true, 1);
        x.begins(1, false, 1);
        // 6 of 10; 5 does not fit, 4 does, 1 does not.
        Due.due("6 and 4", x.again(-1), 16 + 6);
        x.load(0, 5);
        Due.due("5 and 5", x.again(-1), 15 + 5);
        x.load(0, 11);
        Due.due("not 11: 5, 4 and 1", x.again(-1), 21 + 11);
    }

    /** By RANK from the highest on, of like ones the lowest first. */
    private static void highestRankLowestNumber() {
        SaggingNet x = new SaggingNet();
        int[] ranks = {0, 9, 0, 9};
        int[] loads = {10, 7, 4, 8};
        for (int s = 0; s < 4; s++) {
            x.spot(0, loads[s], ranks[s]);
        }
        for (int s = 1; s < 4; s++) {
            x.wire(0, s, 1, 1, 1);
        }
        x.works(0, 12, 0);
        x.works(0, 100, 0);
        x.begins(0, true, 1);
        x.begins(1, false, 1);
        // 7 (the lower of RANK 9), not 8, not 10, then 4.
        Due.due("7 and 4", x.again(-1), 29 + 18);
        x.load(1, 5);
        // 5, not 8, not 10, then 4.
        Due.due("5 and 4", x.again(-1), 27 + 18);
        x.load(1, 4);
        // 4 and 8.
        Due.due("4 and 8", x.again(-1), 26 + 14);
    }

    /** MOST of all that run, together: wherever they are; but SPOTS must hang together with one of them. */
    private static void mostOfAllThatRun() {
        SaggingNet x = new SaggingNet();
        x.spot(0, 15, 9);
        x.spot(0, 3, 5);
        x.spot(0, 100, 9);
        x.works(0, 10, 0);
        x.works(1, 10, 0);
        x.begins(0, true, 1);
        x.begins(1, true, 1);
        // 0 first: 118; 15 are too many for 10: 118. Or 1 first: 118; 3 is lit: 115. Spot 2 stays dark.
        Due.due("works 1 first", x.again(-1), 118 + 115);
        Due.due("works 1 first", x.again(0), 1);
        x.works(1, 1, 0);
        x.begins(2, false, 1);
        // 1, 0: then 15 and 3 are 18 of 20.
        Due.due("then all but spot 2", x.again(-1), 118 + 115 + 100);
        Due.due("then works 0", x.again(1), 0);
    }

    /** THE ORDER: of all that can be that of least DARK. */
    private static void leastDark() {
        SaggingNet x = new SaggingNet();
        x.spot(0, 100, 5);
        x.works(0, 60, 0);
        x.works(0, 60, 0);
        x.works(0, 100, 0);
        x.begins(0, true, 10);
        x.begins(1, true, 20);
        x.begins(2, true, 31);
        // 0 and 1: 1000 and 2000, nothing for 2: 3000. 2 first: 3100.
        Due.due("two short ones", x.again(-1), 3000);
        Due.due("0", x.again(0), 0);
        Due.due("1", x.again(1), 1);
        Due.due("2", x.again(2), 2);
        x.begins(2, true, 29);
        Due.due("one long one", x.again(-1), 2900);
        Due.due("2", x.again(0), 2);
        Due.due("then 0", x.again(1), 0);
        x.begins(2, true, 30);
        Due.due("alike", x.again(-1), 3000);
        Due.due("the least row", x.again(0), 0);
        x.begins(2, false, 1);
        // 0 first: 1000; then 2 in a minute: 100.
        Due.due("not ALONE, but short", x.again(-1), 1100);
        Due.due("0 first", x.again(0), 0);
        Due.due("2 then", x.again(1), 2);
    }

    /** Of like ones the least row. */
    private static void theLeastRow() {
        SaggingNet x = worksAtOne(0, 9);
        for (int k = 0; k < 9; k++) {
            x.begins(k, k == 4, k + 1);
        }
        int[] due = {4, 0, 1, 2, 3, 5, 6, 7, 8};
        for (int i = 0; i < 9; i++) {
            Due.due("place " + i, x.again(i), due[i]);
        }
        x.begins(7, true, 1);
        Due.due("4 is less than 7", x.again(0), 4);
        x.begins(4, false, 1);
        Due.due("7 alone", x.again(0), 7);
        Due.due("then 0", x.again(1), 0);
        Due.due("8 is last", x.again(8), 8);
        SaggingNet one = worksAtOne(5, 1);
        one.begins(0, true, 3);
        Due.due("of one works", one.again(0), 0);
        Due.due("its DARK", one.again(-1), 15);
    }

    private static void theGreatestDark() {
        SaggingNet x = new SaggingNet();
        for (int s = 0; s < 8; s++) {
            x.spot(0, 2000, 0);
        }
        for (int k = 0; k < 9; k++) {
            x.works(0, 1, 0);
            x.begins(k, true, 100);
        }
        Due.due("all stay dark", x.again(-1), 9L * 100 * 16000);
    }

    /** -2: it has not so many (the tape stays). */
    private static void itHasNotSoMany() {
        SaggingNet x = ByHandTest.twoSpots();
        Due.each("of nothing", x::check, -2, 1, 2, 16, 17);
        x.feed(0, 0, 0, 0, 0);
        Due.each("of 20 bytes", x::check, -2, 2, 3, 16, 17);
        Due.each("of 20 bytes", x::check, -2, Due.outside(0, 16));
        Due.due("the tape stays", x.count(8), 20);
        Due.due("one three there is", x.check(1), -1);
        Due.due("it is empty then", x.count(8), 0);
        for (int i = 0; i < 3; i++) {
            x.feed(0, 0, 0, 0, 0);
        }
        Due.due("of 60 bytes six", x.check(6), -2);
        Due.due("of 60 bytes five", x.check(5), 3);
        for (int i = 0; i < 10; i++) {
            x.feed(0, 0, 0, 0, 0);
        }
        Due.each("of 200 bytes", x::check, -2, Due.outside(0, 16));
        Due.each("what turns round to a little", x::check, -2, 357913942, 715827883, 1073741824, -357913941);
        Due.due("the tape stays", x.count(8), 200);
        Due.due("sixteen there are", x.check(16), 3);
        Due.due("it is empty then", x.count(8), 0);
    }

    /** 3 n: some are lacking. */
    private static void someAreLacking() {
        SaggingNet x = new SaggingNet();
        Due.due("no wires, no threes: right", x.check(0), -1);
        for (int s = 0; s < 2; s++) {
            x.spot(0, 0, 0);
        }
        for (int w = 0; w < 14; w++) {
            x.wire(0, 1, 1, 1, 1);
        }
        for (int n = 0; n <= 14; n++) {
            feedZeroes(x, n);
            Due.due("of fourteen " + n, x.check(n), n == 14 ? -1 : 3 * n);
            Due.due("empty then", x.count(8), 0);
        }
    }

    /** As many threes 0, 0, 0 and so on as fit, each of its own WIRE. */
    private static void feedZeroes(SaggingNet x, int threes) {
        int[] five = new int[5];
        for (int i = 0; i < 3 * threes; i++) {
            five[i % 5] = i % 3 == 0 ? i / 3 : 0;
            if (i % 5 == 4 || i == 3 * threes - 1) {
                x.feed(five[0], five[1], five[2], five[3], five[4]);
            }
        }
    }

    /** The first number that is not so: that of a WIRE that is not there. */
    private static void moreThanThereAre() {
        SaggingNet none = new SaggingNet();
        feedZeroes(none, 1);
        Due.due("no wires", none.check(1), 0);
        SaggingNet x = ByHandTest.twoSpots();
        for (int n = 2; n <= 16; n++) {
            feedZeroes(x, n);
            Due.due("of one wire " + n, x.check(n), 3);
        }
    }

    private static void theFirstThatIsNotSo() {
        SaggingNet x = ByHandTest.twoSpots();
        x.wire(0, 1, 1, 1, 1);
        x.feed(0, 0, 0, 1, 0);
        x.feed(0, 0, 0, 0, 0);
        Due.due("right", x.check(2), -1);
        x.feed(0, 0, 1, 2, 0);
        x.feed(0, 0, 0, 0, 0);
        Due.due("the first of two", x.check(2), 2);
        x.feed(0, 0, 0, 0, 0);
        x.feed(0, 0, 0, 0, 0);
        Due.due("by numbers: wire 0 twice", x.check(2), 3);
        x.feed(1, 0, 0, 0, 0);
        x.feed(0, 0, 0, 0, 0);
        Due.due("by numbers: wire 1 first", x.check(2), 0);
        x.feed(0, 5, 0, 1, 0);
        Due.due("wrong is told ahead of lacking", x.check(1), 1);
        x.feed(0, 0, 0, 1, 7);
        Due.due("what is behind is not read", x.check(1), 3);
    }

    /** Four bytes each. */
    private static void eachByteCounts() {
        SaggingNet x = ByHandTest.twoSpots();
        for (int place = 0; place < 3; place++) {
            for (int bit = 0; bit < 32; bit++) {
                int[] is = new int[5];
                is[place] = 1 << bit;
                x.feed(is[0], is[1], is[2], is[3], is[4]);
                Due.due("bit " + bit + " of " + place, x.check(1), place);
            }
        }
    }

    /** How it is (0 ON, 1 OFF, 2 TRIPPED, 3 DOWN), its WARMTH. */
    private static void howTheyAreAndHowWarm() {
        SaggingNet x = EdgesByHandTest.oneOfEach();
        x.cool(0);
        x.goes();
        Due.due("40 through 100", x.wireIs(0, 1), 40);
        x.feed(0, 0, 40, 1, 1);
        x.feed(0, 2, 2, 0, 3);
        x.feed(3, 0, 0, 0, 0);
        Due.due("one of each", x.check(4), -1);
        for (int w = 0; w < 4; w++) {
            for (int is = 0; is < 5; is++) {
                int[] how = {0, 1, 2, 3};
                how[w] = is;
                x.feed(0, how[0], 40, 1, how[1]);
                x.feed(0, 2, how[2], 0, 3);
                x.feed(how[3], 0, 0, 0, 0);
                Due.due("wire " + w + " is " + is, x.check(4), is == w ? -1 : 3 * w + 1);
            }
        }
        x.feed(0, 0, 39, 1, 1);
        Due.due("less WARMTH", x.check(1), 2);
        x.feed(0, 0, 41, 1, 1);
        Due.due("more WARMTH", x.check(1), 2);
    }

    /** 0 NOW to 10 LOADS that are SHED; 20 + w the COST of WIRE w. */
    private static void countsOfAll() {
        SaggingNet x = new SaggingNet();
        Due.due("no wire 0", x.count(20), -1);
        for (int s = 0; s < 8; s++) {
            x.spot(0, 2000, 0);
            Due.due("spots", x.count(1), s + 1);
        }
        for (int w = 0; w < 14; w++) {
            x.wire(0, 1, 1, 1, 1);
            x.cost(w, 1000 - w);
            Due.due("wires", x.count(2), w + 1);
            Due.due("cost of " + w, x.count(20 + w), 1000 - w);
            Due.due("no wire " + (w + 1), x.count(21 + w), -1);
        }
        for (int k = 0; k < 9; k++) {
            x.works(0, 1, 1);
            Due.due("works", x.count(3), k + 1);
        }
        Due.due("all are SHED", x.goes(), 8);
        Due.due("NOW", x.count(0), 1);
        Due.due("EVENTS", x.count(4), 8);
        Due.due("LOADS", x.count(10), 16000);
        x.shed(7, false);
        Due.due("LOADS", x.count(10), 14000);
    }

    /** NONE for others. */
    private static void noSuchCount() {
        SaggingNet x = ByHandTest.twoSpots();
        Due.each("count", x::count, -1, 11, 12, 13, 14, 15, 16, 17, 18, 19, 21, 22, 33, 34, 35);
        Due.each("count", x::count, -1, Due.outside(0, 20));
    }
}
