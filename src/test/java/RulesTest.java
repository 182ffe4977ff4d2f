/** Promises 12 and 13: the tape, what is a TEXT of RULES, and what its CLAUSES take off. */
public final class RulesTest {
    public static void main(String[] args) {
        feed();
        refused();
        clauses();
        misplaced();
        digits();
        thirteenth();
        sevenOpen();
        theTextBeforeStays();
        lettersOfWires();
        lettersOfWorks();
        reckoned();
        dividedByNothing();
        asMuchAsMatters();
        whatIsStillOn();
        wentBefore();
        Due.end();
    }

    private static void feed() {
        SaggingNet x = new SaggingNet();
        for (int i = 1; i <= 10; i++) {
            Due.due("feed " + i, x.feed(i, -1, 0, 0, 0), 20 * i);
        }
        Due.due("feed 11", x.feed(0, 0, 0, 0, 0), -1);
        Due.due("as many as before", x.count(8), 200);
        Due.due("bytes are the highest first", Due.rules(new SaggingNet(), "t(m=0)"), 1);
    }

    private static void refused() {
        SaggingNet x = new SaggingNet();
        Due.due("nothing on the tape", x.rules(1), -1);
        Due.feedAll(x, "t(m=0)");
        Due.due("rules(0)", x.rules(0), -1);
        Due.due("rules(-1)", x.rules(-1), -1);
        Due.due("more than there are", x.rules(21), -1);
        Due.due("the tape stays", x.count(8), 20);
        Due.due("rules(6)", x.rules(6), 1);
        Due.due("it is empty then", x.count(8), 0);
        Due.due("clauses", x.count(5), 1);
        for (int i = 0; i < 10; i++) {
            x.feed(0, 0, 0, 0, 0);
        }
        Due.due("rules(161)", x.rules(161), -1);
        Due.due("the tape stays", x.count(8), 200);
        Due.due("rules(160) of zeroes", x.rules(160), -1000);
        Due.due("empty after a fault, too", x.count(8), 0);
        String longest = "t([m]=0|m=0" + "&m=0".repeat(37) + ")";
        Due.due("its length", longest.length(), 160);
        Due.due("160 bytes", Due.rules(x, longest), 1);
        SaggingNet y = ByHandTest.twoSpots();
        Due.rules(y, longest);
        Due.due("it holds to its end", y.goes(), 1);
    }

    private static void fits(String text, int want) {
        Due.due(text, Due.rules(new SaggingNet(), text), want);
    }

    private static void clauses() {
        fits("t(m=0)", 1);
        fits("o(g<x)", 1);
        fits("t(f>l);o(g=0);t(w>9)", 3);
        fits("t(f>l|w>9&!(m<1|n=2)&i=[k+r]*d/999999%000001-1)", 1);
        fits("t(!!!!!m=0)", 1);
        fits("t((((((m=0))))))", 1);
        fits("t([[[[[m]]]]]=[[[[[1]]]]])", 1);
        fits("t(!m=0&!m=0&!m=0&!m=0&!m=0&!m=0&!m=0)", 1);
        fits("t(m=0);".repeat(11) + "o(m=0)", 12);
    }

    private static void misplaced() {
        fits("x", -1000);
        fits(" t(m=0)", -1000);
        fits(";", -1000);
        fits("t", -1001);
        fits("t[m=0]", -1001);
        fits("t(", -1002);
        fits("t()", -1002);
        fits("t(m", -1003);
        fits("t(m)", -1003);
        fits("t(m=", -1004);
        fits("t(m=)", -1004);
        fits("t(m=0", -1005);
        fits("t(m=0]", -1005);
        fits("t(m=0);", -1007);
        fits("t(m=0);;", -1007);
        fits("t(m=0)t(m=0)", -1006);
        fits("t(m=0) ", -1006);
        fits("t(m=0=0)", -1005);
        fits("t(m 0)", -1003);
        fits("t(-1=0)", -1002);
        fits("t(m=0&)", -1006);
        fits("t(m=0||m=0)", -1006);
        fits("t(m=0&|m=0)", -1006);
        fits("t(!)", -1003);
        fits("t((m=0)", -1007);
        fits("t((m=0))", 1);
        fits("t((m)=0)", -1004);
        fits("t((m=0)=0)", -1007);
        fits("t((m=0)+1=0)", -1007);
        fits("t([m=0])", -1004);
        fits("t([i=0", -1004);
        fits("t([m)=0)", -1004);
        fits("t([]=0)", -1003);
        fits("t([!m=0]=0)", -1003);
        fits("t(m+(1)=0)", -1004);
        fits("t(m+!1=0)", -1004);
        fits("t(m**2=0)", -1004);
        fits("t(mi=0)", -1003);
        fits("t(1m=0)", -1003);
        fits("t(m1=0)", -1003);
        fits("t(M=0)", -1002);
        fits("t(g=0)", -1002);
        fits("t(x=0)", -1002);
        fits("o(f=0)", -1002);
        fits("o(l=0)", -1002);
        fits("o(w=0)", -1002);
        fits("t(m=0);x(m=0)", -1007);
        fits("t(m=" + (char) 233 + ")", -1004);
    }

    private static void digits() {
        fits("t(123456=0)", 1);
        fits("t(1234567=0)", -2008);
        fits("t(0000000=0)", -2008);
        fits("t(m=1234567", -2010);
        fits("t(m=999999+999999)", 1);
        fits("t(m+1234567)", -2010);
    }

    private static void thirteenth() {
        String twelve = "t(m=0);".repeat(12);
        fits(twelve, -1084);
        fits(twelve + "t(m=0)", -4084);
        fits(twelve + "o", -4084);
        fits(twelve + "x", -1084);
        fits(twelve + ";", -1084);
    }

    private static void sevenOpen() {
        fits("t(((((((m=0", -5007);
        fits("t(!!!!!!m=0)", -5007);
        fits("t(!!!!![m]=0)", -5007);
        fits("t([[[[[[m", -5007);
        fits("t(!(!(!(m=0", -5007);
        fits("t(!(!(!m=0)&!(m=[1])))", 1);
        fits("t(!(!(![m]=0", -5007);
        fits("t(((((!m=0)))))", 1);
        fits("t(((((!!m=0", -5007);
        fits("t(((((m=[1])))))", 1);
        fits("t(((((m=[[1", -5009);
        fits("t(((((m=0(", -1009);
        fits("t(!!!!!m=0|!!!!!m=0)", 1);
        fits("t((((((m=0)))))&(((((m=0))))))", 1);
        fits("t(m=0);t(!!!!!m=0)", 2);
    }

    private static void theTextBeforeStays() {
        SaggingNet x = ByHandTest.twoSpots();
        Due.due("one", Due.rules(x, "t(m=1)"), 1);
        Due.due("a fault", Due.rules(x, "t(m=0);t(m=0);x"), -1014);
        Due.due("clauses as before", x.count(5), 1);
        Due.due("nothing at 0", x.goes(), 0);
        Due.due("tripped at 1", x.goes(), 1);
        Due.due("another in its place", Due.rules(x, "o(m=2);o(m=2)"), 2);
        Due.due("clauses", x.count(5), 2);
        x.turn(0, true);
        x.goes();
        Due.due("the first one is no more", x.wireIs(0, 0), 0);
        Due.due("off by the second", x.worksAre(0, 0), 0);
    }

    /** Three spots in a row: 0 (land 0), 1 (land 3, load 90), 2 (land 2, load 40, shed); wires 1-0 and 1-2. */
    private static SaggingNet threeSpots() {
        SaggingNet x = new SaggingNet();
        x.spot(0, 10, 5);
        x.spot(3, 90, 5);
        x.spot(2, 40, 5);
        x.works(0, 60, 2);
        x.works(0, 300, 1);
        x.wire(1, 0, 1, 50, 9000);
        x.wire(1, 2, 1, 70, 9000);
        x.shed(2, true);
        return x;
    }

    private static void trips(String condition, int wires) {
        SaggingNet x = threeSpots();
        x.goes();
        Due.due("fits " + condition, Due.rules(x, "t(" + condition + ")") > 0, true);
        x.goes();
        int bits = 0;
        for (int w = 0; w < 2; w++) {
            bits |= x.wireIs(w, 0) == 2 ? 1 << w : 0;
        }
        Due.due("trips " + condition, bits, wires);
    }

    private static void stops(String condition, int works) {
        SaggingNet x = threeSpots();
        x.goes();
        Due.due("fits " + condition, Due.rules(x, "o(" + condition + ")") > 0, true);
        x.goes();
        int bits = 0;
        for (int k = 0; k < 2; k++) {
            bits |= x.worksAre(k, 0) == 0 ? 1 << k : 0;
        }
        Due.due("stops " + condition, bits, works);
        Due.due("no wire by " + condition, x.wireIs(0, 0), 0);
    }

    private static void lettersOfWires() {
        trips("m=1", 3);
        trips("i=1", 2);
        trips("k=3", 3);
        trips("r=260", 3);
        trips("d=40", 3);
        trips("n=0", 3);
        trips("f=9000", 1);
        trips("f=0", 2);
        trips("l=50", 1);
        trips("l=70", 2);
        // 9000 through 50 is 180 a MINUTE, less 100.
        trips("w=160", 1);
        trips("w=0", 2);
        trips("f>l*100", 1);
    }

    private static void lettersOfWorks() {
        stops("m=1", 3);
        stops("i=0", 1);
        stops("k=0", 3);
        stops("k=3", 0);
        stops("r=260", 3);
        stops("d=40", 3);
        stops("n=0", 3);
        stops("g=100", 2);
        stops("g=0", 1);
        stops("x=60", 1);
        stops("x=300", 2);
    }

    private static void reckoned() {
        trips("2+3*4=20", 0);
        trips("2+3*4=14", 3);
        trips("[2+3]*4=20", 3);
        trips("20-5-3=12", 3);
        trips("20/3*3=18", 3);
        trips("20%7*2=12", 3);
        trips("0-7/2=0-3", 3);
        trips("[0-7]/2=0-3", 3);
        trips("[0-7]%3=0-1", 3);
        trips("2*3%4=2", 3);
        trips("10-2*3-1=3", 3);
        trips("1+1*[1+1*[1+1*[1+1*[1+1*[1+1]]]]]=1+1*[1+1*[1+1*[1+1*[1+1*[1+1]]]]]", 3);
        trips("1<1", 0);
        trips("1>1", 0);
        trips("1<2&2>1&!1=2", 3);
        trips("i=0|i=1&m=9", 1);
        trips("(i=0|i=1)&l=70", 2);
        trips("!(i=0|m=9)", 2);
        trips("!!i=0", 1);
        trips("!i=0&!i=9", 2);
        // 64 bits, as the machine does: 2^63 turns below 0.
        trips("65536*65536*65536*32768<0", 3);
        trips("65536*65536*65536*65536=0", 3);
        trips("65536*65536*65536*32768/[0-1]<0", 3);
        trips("65536*65536*65536*32768%[0-1]=0", 3);
    }

    private static void dividedByNothing() {
        trips("1/i=1", 2);
        trips("1%i=0", 2);
        trips("!1/i=9", 2);
        trips("!(!1/i=9)", 0);
        trips("0*[1/i]=0", 2);
        trips("1/0=0|m=1", 0);
        trips("m=1|1/0=0", 3);
        trips("(1/0=0|m=1)|m=1", 0);
        SaggingNet x = threeSpots();
        Due.due("the other clause is asked", Due.rules(x, "t(1/0=0|m=0);t(i=1)"), 2);
        Due.due("and holds for one", x.goes(), 1);
        Due.due("which is", x.event(0, 1), 1);
    }

    private static void asMuchAsMatters() {
        trips("m=9&1/0=0|m=1", 3);
        trips("m=1&1/0=0|m=1", 0);
        trips("m=1|1/0=0&m=1", 3);
        trips("(m=1|1/0=0)&i=0", 1);
        trips("!(m=1|1/0=0)|i=0", 1);
        trips("!(m=9&1/0=0)&i=1", 2);
        trips("m=9&(m=1|m=1)&1/0=0|i=1", 2);
        trips("m=9&m=1&(1/0=0)|m=9|i=1", 2);
    }

    private static void whatIsStillOn() {
        SaggingNet x = threeSpots();
        x.turn(1, false);
        x.tree(0, 9000);
        Due.due("all trip", Due.rules(x, "t(0=0);o(i=1)"), 2);
        Due.due("wire 0 is down, 1 was off, works 1 go", x.goes(), 2);
        Due.due("down", x.wireIs(0, 0), 3);
        Due.due("off", x.wireIs(1, 0), 1);
        Due.due("first event", x.event(0, 0), 1);
        Due.due("second event", x.event(1, 0), 3);
        // What warms in the MINUTE is what the guards see.
        SaggingNet y = threeSpots();
        Due.rules(y, "t(w=80)");
        Due.due("warm at once", y.goes(), 1);
    }

    private static void wentBefore() {
        SaggingNet x = threeSpots();
        x.tree(0, 9000);
        Due.rules(x, "t(i=1&m=0);o(n=2)");
        Due.due("one down, one tripped", x.goes(), 2);
        Due.due("n was 0 then", x.worksAre(0, 0), 1);
        Due.due("works, and spot 1", x.goes(), 3);
        Due.due("off", x.worksAre(0, 0), 0);
        x.run(0, true);
        Due.due("only spot 0's own", x.goes(), 0);
        Due.due("n is 0 again", x.worksAre(0, 0), 1);
    }
}
