/** Promises 28 to 31: CLOCKS, ROWS, BEFORE and OF TWO ROWS. */
public final class ClockTest {
    public static void main(String[] args) {
        clocks();
        rows();
        before();
        sure();
        byWayOfOthers();
        oneLand();
        farOnes();
        Due.end();
    }

    private static void clocks() {
        SaggingNet x = new SaggingNet();
        Due.due("land 4", x.clock(4, 0, 0), false);
        Due.due("land -1", x.clock(-1, 0, 0), false);
        Due.due("low -101", x.clock(0, -101, 0), false);
        Due.due("high 101", x.clock(0, 0, 101), false);
        Due.due("low above high", x.clock(0, 1, 0), false);
        Due.due("both below", x.clock(0, -102, -101), false);
        Due.due("widest", x.clock(0, -100, 100), true);
        Due.due("narrow", x.clock(3, 100, 100), true);
    }

    private static void rows() {
        SaggingNet x = new SaggingNet();
        Due.due("land 4", x.row(4, 0), -1);
        Due.due("land -1", x.row(-1, 0), -1);
        Due.due("time -1", x.row(0, -1), -1);
        Due.due("time 10000", x.row(0, 10000), -1);
        for (int i = 0; i < 40; i++) {
            Due.due("row " + i, x.row(i % 4, i == 0 ? 0 : 9999), i);
        }
        Due.due("a row too many", x.row(0, 0), -1);
        Due.due("rows", x.count(6), 40);
        Due.due("order no 40", x.order(0, 40), -1);
        Due.due("order no -1", x.order(-1, 0), -1);
        Due.due("order far apart", x.order(0, 39), 0);
    }

    private static void before() {
        SaggingNet x = new SaggingNet();
        x.row(0, 5);
        x.row(1, 5);
        Due.due("no row 2", x.before(0, 2), false);
        Due.due("no row -1", x.before(-1, 0), false);
        Due.due("one twice", x.before(1, 1), false);
        for (int i = 0; i < 100; i++) {
            Due.due("before " + i, x.before(i % 2, 1 - i % 2), true);
        }
        Due.due("one too many", x.before(0, 1), false);
        Due.due("told", x.count(7), 100);
        Due.due("at the same time", x.order(0, 1), 2);
    }

    private static void sure() {
        SaggingNet x = new SaggingNet();
        x.row(0, 10);
        x.row(1, 15);
        Due.due("10 and 15", x.order(0, 1), 0);
        Due.due("the other way", x.order(1, 0), 1);
        x.clock(1, 0, 4);
        Due.due("15 is 11 at least", x.order(0, 1), 0);
        x.clock(1, 0, 5);
        Due.due("10 perhaps", x.order(0, 1), 3);
        x.clock(1, 5, 5);
        Due.due("10 surely", x.order(0, 1), 2);
        x.clock(1, 5, 6);
        Due.due("10 or 9", x.order(0, 1), 3);
        x.clock(1, 6, 9);
        Due.due("9 at most", x.order(0, 1), 1);
        x.before(0, 1);
        Due.due("that fits nothing", x.order(0, 1), 4);
        Due.due("of one row neither", x.order(0, 0), 4);
        x.clock(0, 1, 9);
        Due.due("but if the other is ahead, too", x.order(0, 1), 3);
        Due.due("one row", x.order(1, 1), 2);
    }

    private static void byWayOfOthers() {
        SaggingNet x = new SaggingNet();
        for (int k = 0; k < 4; k++) {
            x.clock(k, -50, 50);
            x.row(k, 1000);
            x.row(k, 1010);
        }
        Due.due("nothing told", x.order(0, 6), 3);
        // 1 of land 0 is not behind 2 of land 1, and so on: each is 10 or more ahead of the next.
        x.before(1, 2);
        x.before(3, 4);
        x.before(5, 6);
        Due.due("0 is 10 ahead of 1, that not behind 6 by 20", x.order(1, 6), 0);
        Due.due("0 and 6", x.order(0, 6), 0);
        Due.due("7 and 1", x.order(7, 1), 1);
        x.before(6, 1);
        Due.due("a ring of them fits nothing", x.order(1, 6), 4);
        SaggingNet y = new SaggingNet();
        y.clock(0, 0, 10);
        y.clock(1, 0, 10);
        y.row(0, 100);
        y.row(1, 110);
        y.row(1, 105);
        y.before(1, 0);
        Due.due("0 ahead by 0, 1 by 10", y.order(0, 1), 2);
        Due.due("so this as well", y.order(2, 0), 0);
        y.clock(0, 1, 10);
        Due.due("that fits nothing", y.order(2, 0), 4);
    }

    private static void oneLand() {
        SaggingNet x = new SaggingNet();
        x.clock(2, -100, 100);
        x.row(2, 7);
        x.row(2, 8);
        x.row(2, 7);
        Due.due("one clock", x.order(0, 1), 0);
        Due.due("the same time", x.order(0, 2), 2);
        Due.due("behind", x.order(1, 2), 1);
        x.before(0, 1);
        Due.due("as it is", x.order(0, 1), 0);
        x.before(1, 0);
        Due.due("that fits no clock", x.order(0, 2), 4);
    }

    private static void farOnes() {
        SaggingNet x = new SaggingNet();
        x.clock(0, -100, 100);
        x.clock(1, -100, 100);
        x.row(0, 0);
        x.row(1, 200);
        x.row(1, 201);
        x.row(0, 9999);
        Due.due("200 apart perhaps the same", x.order(0, 1), 3);
        Due.due("201 surely not", x.order(0, 2), 0);
        x.before(1, 0);
        Due.due("then just so", x.order(0, 1), 2);
        Due.due("and 1 less", x.order(2, 0), 1);
        x.before(3, 0);
        Due.due("never", x.order(0, 1), 4);
    }
}
