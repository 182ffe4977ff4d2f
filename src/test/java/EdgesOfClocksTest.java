/** Promises 28 to 31, sentence by sentence: CLOCKS, ROWS and BEFORE ones at their ends, and each answer OF TWO ROWS. */
public final class EdgesOfClocksTest {
    public static void main(String[] args) {
        noSuchClock();
        noClockIsAheadAtFirst();
        noSuchRow();
        fortyRowsAreThere();
        noSuchBefore();
        aHundredWereTold();
        noSuchTwo();
        oneLand();
        twoLands();
        notBehind();
        byWayOfEachLand();
        noClocksFit();
        noClocksFitElsewhere();
        theWidest();
        againstAllWays();
        Due.end();
    }

    /** Ahead by low to high (-100 to 100): true; false: no such ones. */
    private static void noSuchClock() {
        SaggingNet x = new SaggingNet();
        x.row(0, 100);
        x.row(1, 100);
        Due.says("clock of land", k -> x.clock(k, 0, 0), false, Due.outside(0, 3));
        Due.says("low", low -> x.clock(0, low, 100), false, Due.outside(-100, 100));
        Due.says("high", high -> x.clock(0, -100, high), false, Due.outside(-100, 100));
        Due.says("both", n -> x.clock(0, n, n), false, Due.outside(-100, 100));
        Due.due("low above high", x.clock(0, 1, 0), false);
        Due.due("low above high", x.clock(0, 100, -100), false);
        Due.due("low above high", x.clock(0, -99, -100), false);
        Due.due("as it was: at the same time", x.order(0, 1), 2);
        int[][] ends = {{-100, -100}, {100, 100}, {-100, 100}, {-1, 0}, {0, 1}, {0, 0}};
        int[] due = {1, 0, 3, 3, 3, 2};
        for (int k = 0; k < 4; k++) {
            for (int[] end : ends) {
                Due.due(end[0] + " to " + end[1], x.clock(k, end[0], end[1]), true);
            }
        }
        for (int i = 0; i < ends.length; i++) {
            x.clock(0, ends[i][0], ends[i][1]);
            Due.due("row 0 by " + ends[i][0] + " to " + ends[i][1], x.order(0, 1), due[i]);
        }
    }

    /** 0 and 0 at first. */
    private static void noClockIsAheadAtFirst() {
        SaggingNet x = new SaggingNet();
        for (int k = 0; k < 4; k++) {
            x.row(k, 50);
            x.row(k, 51);
        }
        for (int a = 0; a < 8; a++) {
            for (int b = 0; b < 8; b++) {
                Due.due(a + " and " + b, x.order(a, b), a % 2 < b % 2 ? 0 : a % 2 > b % 2 ? 1 : 2);
            }
        }
    }

    /** A LAND, a time (0 to 9999); NONE: no such ones. */
    private static void noSuchRow() {
        SaggingNet x = new SaggingNet();
        Due.each("row of land", k -> x.row(k, 5), -1, Due.outside(0, 3));
        Due.each("row at", time -> x.row(0, time), -1, Due.outside(0, 9999));
        Due.due("none is there", x.count(6), 0);
        Due.due("the least of all", x.row(0, 0), 0);
        Due.due("the greatest of all", x.row(3, 9999), 1);
        Due.due("they are there", x.count(6), 2);
        Due.due("far apart", x.order(0, 1), 0);
        Due.due("the other way", x.order(1, 0), 1);
        x.goes();
        Due.due("a row when NOW is not 0", x.row(0, 0), 2);
    }

    /** NONE: 40 are there. */
    private static void fortyRowsAreThere() {
        SaggingNet x = new SaggingNet();
        for (int i = 0; i < 40; i++) {
            Due.due("row " + i, x.row(i % 4, i), i);
        }
        Due.due("a forty-first", x.row(0, 0), -1);
        Due.due("and again", x.row(3, 9999), -1);
        Due.due("forty", x.count(6), 40);
        Due.due("the last of them", x.order(39, 38), 1);
        Due.due("the last of them", x.before(39, 38), true);
        Due.due("no row 40", x.before(0, 40), false);
        Due.due("no row 40", x.order(40, 0), -1);
    }

    /** BEFORE: false: no such ROWS, one twice. */
    private static void noSuchBefore() {
        SaggingNet x = new SaggingNet();
        Due.due("no rows", x.before(0, 1), false);
        x.row(0, 5);
        Due.due("one row", x.before(0, 1), false);
        Due.due("one row", x.before(1, 0), false);
        Due.due("one twice", x.before(0, 0), false);
        x.row(1, 5);
        x.row(2, 5);
        Due.says("first", a -> x.before(a, 1), false, Due.outside(0, 2));
        Due.says("second", b -> x.before(1, b), false, Due.outside(0, 2));
        Due.says("one twice", a -> x.before(a, a), false, 0, 1, 2);
        Due.says("none of it twice", a -> x.before(a, a), false, Due.outside(0, 2));
        Due.due("none is told", x.count(7), 0);
        Due.due("the lowest and the highest", x.before(0, 2), true);
        Due.due("the other way", x.before(2, 0), true);
        Due.due("the same again", x.before(2, 0), true);
        Due.due("three are told", x.count(7), 3);
    }

    /** false: 100 were told. */
    private static void aHundredWereTold() {
        SaggingNet x = new SaggingNet();
        for (int k = 0; k < 4; k++) {
            x.clock(k, -100, 100);
            x.row(k, 0);
        }
        for (int i = 1; i <= 99; i++) {
            Due.due("told " + i, x.before(0, 1), true);
        }
        Due.due("not sure", x.order(2, 3), 3);
        x.row(2, 200);
        x.row(3, 0);
        Due.due("the hundredth", x.before(4, 5), true);
        Due.due("it counts: 200 ahead surely", x.order(4, 5), 2);
        Due.due("one too many", x.before(3, 2), false);
        Due.due("and again", x.before(2, 3), false);
        Due.due("a hundred", x.count(7), 100);
        Due.due("it does not count", x.order(2, 3), 0);
    }

    /** NONE: no such ones. */
    private static void noSuchTwo() {
        SaggingNet x = new SaggingNet();
        x.row(0, 5);
        x.row(1, 5);
        Due.each("order x", a -> x.order(a, 0), -1, Due.outside(0, 1));
        Due.each("order y", b -> x.order(0, b), -1, Due.outside(0, 1));
        Due.each("one twice is a question", a -> x.order(a, a), 2, 0, 1);
    }

    private static void oneLand() {
        SaggingNet x = new SaggingNet();
        x.clock(2, -100, 100);
        x.row(2, 5000);
        x.row(2, 5001);
        x.row(2, 5000);
        Due.due("one ahead surely", x.order(0, 1), 0);
        Due.due("the other", x.order(1, 0), 1);
        Due.due("at the same time surely", x.order(0, 2), 2);
        Due.due("one row twice", x.order(1, 1), 2);
    }

    /** 0 x was ahead of y surely, 1 y of x surely, 2 at the same time surely, 3 not sure. */
    private static void twoLands() {
        SaggingNet x = new SaggingNet();
        x.row(0, 100);
        x.row(1, 110);
        int[][] ends = {{0, 9}, {0, 10}, {0, 11}, {9, 10}, {10, 10}, {10, 11}, {11, 100}, {-100, 100}, {9, 11}};
        int[] due = {0, 3, 3, 3, 2, 3, 1, 3, 3};
        for (int i = 0; i < ends.length; i++) {
            x.clock(1, ends[i][0], ends[i][1]);
            String name = ends[i][0] + " to " + ends[i][1];
            Due.due(name, x.order(0, 1), due[i]);
            Due.due(name + ", the other way", x.order(1, 0), due[i] < 2 ? 1 - due[i] : due[i]);
        }
        x.clock(1, 10, 12);
        x.clock(0, 0, 2);
        Due.due("both", x.order(0, 1), 3);
        x.clock(0, 3, 4);
        Due.due("both", x.order(0, 1), 0);
        x.clock(0, -1, -1);
        Due.due("both", x.order(0, 1), 1);
    }

    /** The first was not behind the second: at the same time it may be. */
    private static void notBehind() {
        SaggingNet x = new SaggingNet();
        x.clock(1, -5, 5);
        x.row(0, 100);
        x.row(1, 100);
        x.row(1, 101);
        x.before(0, 1);
        Due.due("not behind: ahead or the same", x.order(0, 1), 3);
        Due.due("so ahead of one later", x.order(0, 2), 0);
        x.clock(1, 0, 5);
        Due.due("the same is left", x.order(0, 1), 2);
        x.clock(1, 1, 5);
        Due.due("nothing is left", x.order(0, 1), 4);
        SaggingNet y = new SaggingNet();
        y.row(0, 100);
        y.row(0, 100);
        Due.due("of one LAND at the same time", y.before(0, 1), true);
        Due.due("the other way", y.before(1, 0), true);
        Due.due("that fits", y.order(0, 1), 2);
    }

    /** By all ways the CLOCKS can be ahead: what binds two LANDS binds by way of a third. */
    private static void byWayOfEachLand() {
        for (int by = 0; by < 4; by++) {
            for (int a = 0; a < 4; a++) {
                for (int b = 0; b < 4; b++) {
                    if (a != by && b != by && a != b) {
                        byWayOf(a, by, b);
                    }
                }
            }
        }
    }

    private static void byWayOf(int a, int by, int b) {
        SaggingNet x = new SaggingNet();
        for (int k = 0; k < 4; k++) {
            x.clock(k, -50, 50);
            x.row(k, 100);
        }
        String name = a + " by " + by + " to " + b;
        Due.due(name + ": not sure", x.order(a, b), 3);
        x.before(a, by);
        Due.due(name + ": not sure yet", x.order(a, b), 3);
        x.row(by, 101);
        x.before(4, b);
        Due.due(name + ": surely", x.order(a, b), 0);
        Due.due(name + ": the other way", x.order(b, a), 1);
        x.row(b, 99);
        Due.due(name + ": one less is not sure", x.order(a, 5), 3);
    }

    /** 4 no CLOCKS fit all that was told. */
    private static void noClocksFit() {
        SaggingNet x = new SaggingNet();
        x.clock(0, -100, 100);
        x.clock(1, -100, 100);
        x.row(0, 100);
        x.row(1, 300);
        x.row(1, 301);
        Due.due("200 apart: can be", x.before(1, 0), true);
        Due.due("just so", x.order(0, 1), 2);
        Due.due("201 apart: can't", x.before(2, 0), true);
        Due.each("of no two", b -> x.order(0, b), 4, 0, 1, 2);
        Due.each("nor of one", a -> x.order(a, a), 4, 0, 1, 2);
        for (int k = 0; k < 4; k++) {
            SaggingNet y = new SaggingNet();
            y.clock(k, -100, 100);
            y.row(k, 7);
            y.row(k, 6);
            y.row(3 - k, 5);
            y.before(0, 1);
            Due.due("one CLOCK does not go back: " + k, y.order(0, 1), 4);
            Due.due("nor for another LAND than " + k, y.order(2, 2), 4);
        }
        SaggingNet ring = new SaggingNet();
        for (int k = 0; k < 4; k++) {
            ring.clock(k, -100, 100);
            ring.row(k, 100);
        }
        ring.row(3, 101);
        for (int k = 0; k < 3; k++) {
            ring.before(k, k + 1);
        }
        ring.before(3, 0);
        Due.due("all at the same time", ring.order(1, 2), 2);
        ring.before(4, 0);
        Due.due("one behind itself", ring.order(1, 2), 4);
    }

    /** All that was told: of other LANDS as well; other CLOCKS may fit again. */
    private static void noClocksFitElsewhere() {
        SaggingNet x = new SaggingNet();
        x.row(0, 1);
        x.row(0, 2);
        x.row(2, 6);
        x.row(3, 5);
        Due.due("as it is", x.order(0, 1), 0);
        x.before(2, 3);
        Due.due("lands 2 and 3 do not fit", x.order(0, 1), 4);
        x.clock(3, -1, 0);
        Due.due("now they do", x.order(0, 1), 0);
        Due.due("at the same time", x.order(2, 3), 2);
        x.clock(3, 0, 0);
        Due.due("not any more", x.order(0, 0), 4);
    }

    private static void theWidest() {
        SaggingNet x = new SaggingNet();
        for (int k = 0; k < 4; k++) {
            x.clock(k, -100, 100);
        }
        x.row(0, 0);
        x.row(1, 9999);
        x.row(2, 200);
        x.row(3, 201);
        Due.due("the farthest", x.order(0, 1), 0);
        Due.due("200: not sure", x.order(0, 2), 3);
        Due.due("201: sure", x.order(0, 3), 0);
        x.clock(0, 100, 100);
        x.clock(2, 100, 100);
        Due.due("both by 100", x.order(0, 2), 0);
        x.clock(0, -100, -100);
        Due.due("200 between them", x.order(0, 2), 2);
    }

    /** Each answer by trying all CLOCKS, when each may be ahead by three numbers. */
    private static void againstAllWays() {
        int seed = 7;
        for (int run = 0; run < 40; run++) {
            SaggingNet x = new SaggingNet();
            PlainNet plain = new PlainNet();
            for (int k = 0; k < 4; k++) {
                seed = seed * 1103515245 + 12345;
                int low = (seed >>> 16) % 5 - 2;
                x.clock(k, low, low + 2);
                plain.clock(k, low, low + 2);
                x.row(k, 10 + (seed >>> 20) % 4);
                plain.row(k, 10 + (seed >>> 20) % 4);
            }
            for (int told = 0; told < 3; told++) {
                seed = seed * 1103515245 + 12345;
                int a = (seed >>> 16) % 4;
                int b = (seed >>> 20) % 4;
                Due.due("before", x.before(a, b), plain.before(a, b));
                for (int i = 0; i < 16; i++) {
                    Due.due("run " + run + ": " + i / 4 + " and " + i % 4, x.order(i / 4, i % 4),
                            plain.order(i / 4, i % 4));
                }
            }
        }
    }
}
