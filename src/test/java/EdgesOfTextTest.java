/** Promises 12 and 13, sentence by sentence: the tape's ends, a TEXT's ends, each FAULT at its place. */
public final class EdgesOfTextTest {
    private static final String DIGITS = "0123456789";
    private static final String OF_WIRES = "mikrdnflw";
    private static final String OF_WORKS = "mikrdngx";

    public static void main(String[] args) {
        twentyBytesEach();
        highestFirst();
        moreThanTwoHundred();
        noSuchLength();
        notSoMany();
        byTheFirstOnes();
        emptyThen();
        aFaultLeavesTheTextBefore();
        oneTextAfterAnother();
        theLongestText();
        whatCanStandInATextOfWires();
        whatCanStandInATextOfWorks();
        theEndCantStandThere();
        theSeventhDigit();
        theThirteenthClause();
        theSeventhOpen();
        theFirstFaultFromTheLeft();
        lettersByIslands();
        howManyWent();
        refusedByEachDivision();
        sixtyFourBits();
        Due.end();
    }

    /** Twenty bytes come behind the tape: how many it has. */
    private static void twentyBytesEach() {
        SaggingNet x = new SaggingNet();
        Due.due("of nothing", x.count(8), 0);
        Due.due("the first twenty", x.feed(0, 0, 0, 0, 0), 20);
        Due.due("the next", x.feed(-1, -1, -1, -1, -1), 40);
        Due.due("it has them", x.count(8), 40);
    }

    /** The highest of each int first. */
    private static void highestFirst() {
        // t(m= | 0)
        SaggingNet x = new SaggingNet();
        x.feed('t' << 24 | '(' << 16 | 'm' << 8 | '=', '0' << 24 | ')' << 16, 0, 0, 0);
        Due.due("of the first and the second", x.rules(6), 1);
        // t(m=000000+0+0+1=0) is wrong at its second = alone.
        SaggingNet y = new SaggingNet();
        y.feed('t' << 24 | '(' << 16 | 'm' << 8 | '=', '0' << 24 | '0' << 16 | '0' << 8 | '0',
                '0' << 24 | '0' << 16 | '+' << 8 | '0', '+' << 24 | '0' << 16 | '+' << 8 | '1',
                '=' << 24 | '0' << 16 | ')' << 8);
        Due.due("of all five", y.rules(19), -1016);
        SaggingNet z = new SaggingNet();
        z.feed(0, 0, 0, 0, Integer.MIN_VALUE);
        z.feed(0, 0, 0, 0, 0);
        Due.due("the highest bit is a bit of the highest byte", z.check(2), 0);
    }

    /** NONE if that would be more than 200. */
    private static void moreThanTwoHundred() {
        SaggingNet x = new SaggingNet();
        for (int i = 1; i <= 9; i++) {
            x.feed(0, 0, 0, 0, 0);
        }
        Due.due("just 200", x.feed(0, 0, 0, 0, 0), 200);
        Due.due("220", x.feed(1, 1, 1, 1, 1), -1);
        Due.due("and again", x.feed(0, 0, 0, 0, 0), -1);
        Due.due("200 they are", x.count(8), 200);
        Due.due("16 threes for no wires: the first is wrong", x.check(16), 0);
        Due.due("empty", x.count(8), 0);
        Due.due("there is room again", x.feed(0, 0, 0, 0, 0), 20);
    }

    /** NONE: no such n (1 to 160; the tape stays). */
    private static void noSuchLength() {
        SaggingNet x = new SaggingNet();
        for (int i = 0; i < 10; i++) {
            x.feed(0, 0, 0, 0, 0);
        }
        Due.each("rules", x::rules, -1, Due.outside(1, 160));
        Due.due("the tape stays", x.count(8), 200);
        Due.due("160 there are", x.rules(160), -1000);
        Due.due("it is empty then", x.count(8), 0);
        SaggingNet y = new SaggingNet();
        y.feed('t' << 24, 0, 0, 0, 0);
        Due.due("one byte is a text with a fault at its end", y.rules(1), -1001);
        Due.due("it is empty then", y.count(8), 0);
    }

    /** NONE: it has not so many (the tape stays). */
    private static void notSoMany() {
        SaggingNet x = new SaggingNet();
        Due.each("of nothing", x::rules, -1, 1, 20, 160);
        Due.feedAll(x, "t(m=0|m=1|m=2|i=500)");
        Due.each("of twenty", x::rules, -1, 21, 40, 160);
        Due.due("the tape stays", x.count(8), 20);
        Due.due("just all", x.rules(20), 1);
        Due.due("it is empty then", x.count(8), 0);
        Due.due("not twice", x.rules(20), -1);
        Due.due("the text stays", x.count(5), 1);
    }

    /** By the first n bytes: what is behind them is not read. */
    private static void byTheFirstOnes() {
        String text = "t(m=0);o(m=123456);t";
        for (int n = 1; n <= 20; n++) {
            SaggingNet x = new SaggingNet();
            Due.feedAll(x, text + "(m=1)");
            boolean ends = n == 6 || n == 18;
            Due.due("the first " + n, x.rules(n), ends ? n / 6 - n / 18 : -1000 - n);
            Due.due("all are gone", x.count(8), 0);
        }
        // Nor is what another TEXT left behind.
        SaggingNet y = new SaggingNet();
        for (int i = 0; i < 3; i++) {
            Due.rules(y, "t(m=9);t(m=9);t(m=9)");
        }
        Due.due("cut off ahead of its )", Due.rules(y, "t(m=9"), -1005);
        Due.due("cut off ahead of another", Due.rules(y, "t(m=9);t(m=9"), -1012);
        Due.due("cut off behind a ;", Due.rules(y, "t(m=9);"), -1007);
    }

    /** Empty then, be it right or not. */
    private static void emptyThen() {
        SaggingNet x = new SaggingNet();
        Due.due("right", Due.rules(x, "t(m=0)"), 1);
        Due.due("empty", x.count(8), 0);
        Due.due("not right", Due.rules(x, "t(m=0("), -1005);
        Due.due("empty", x.count(8), 0);
        Due.due("a seventh digit", Due.rules(x, "t(1234567=0)"), -2008);
        Due.due("empty", x.count(8), 0);
        Due.due("a seventh open", Due.rules(x, "t(!!!!!!m=0)"), -5007);
        Due.due("empty", x.count(8), 0);
    }

    /** A FAULT: the TEXT before stays (none at first). */
    private static void aFaultLeavesTheTextBefore() {
        SaggingNet x = ByHandTest.twoSpots();
        Due.due("a fault", Due.rules(x, "t(m=0);"), -1007);
        Due.due("none, as at first", x.count(5), 0);
        Due.due("nothing is tripped", x.goes(), 0);
        Due.due("a text", Due.rules(x, "t(m=9);t(m=3);o(m=9)"), 3);
        String[] faults = {"t(m=1)x", "t(1234567=1)", "t(m=1);".repeat(12) + "t", "t(m>0);t(((((((m=1"};
        for (String fault : faults) {
            Due.due("a fault of " + fault, Due.rules(x, fault) < -1, true);
            Due.due("three clauses as before", x.count(5), 3);
        }
        Due.due("nothing at 1", x.goes(), 0);
        Due.due("nothing at 2", x.goes(), 0);
        Due.due("tripped at 3", x.goes(), 1);
        Due.due("by the one before", x.wireIs(0, 0), 2);
    }

    /** In force from NOW on, in place of the one before. */
    private static void oneTextAfterAnother() {
        SaggingNet x = ByHandTest.twoSpots();
        Due.rules(x, "t(1/0=1);t(1/0=1)");
        Due.rules(x, "o(1/0=1|m=m)");
        Due.rules(x, "t(m=7);t(m=8);t(m=9)");
        Due.due("nothing at 0", x.goes(), 0);
        Due.rules(x, "t(m=1)");
        Due.due("one clause", x.count(5), 1);
        Due.due("at 1", x.goes(), 1);
        x.turn(0, true);
        Due.rules(x, "o(m=3)");
        Due.due("nothing at 2", x.goes(), 0);
        Due.rules(x, "o(m=4)");
        Due.due("nothing at 3", x.goes(), 0);
        Due.rules(x, "t(m=4);o(m=5)");
        Due.due("the wire at 4", x.goes(), 1);
        Due.due("tripped", x.wireIs(0, 0), 2);
        Due.due("the works are on", x.worksAre(0, 0), 1);
    }

    /** At most 160 bytes. */
    private static void theLongestText() {
        String longest = "t(" + "i=1|".repeat(38) + "m=m+0)";
        Due.due("its length", longest.length(), 160);
        SaggingNet x = ByHandTest.twoSpots();
        Due.due("160 bytes", Due.rules(x, longest), 1);
        Due.due("it holds by its last PART", x.goes(), 1);
        Due.due("without its end", Due.rules(x, longest.substring(0, 159) + "9"), -1160);
        Due.due("without its end", Due.rules(x, longest.substring(0, 159)), -1159);
        Due.due("wrong at the last byte", Due.rules(x, longest.substring(0, 159) + "]"), -1159);
        Due.due("it stays", x.count(5), 1);
        String open = "t(" + "!!!!!m=1|".repeat(17);
        Due.due("as many ! as can be", Due.rules(x, open.substring(0, 154) + "+0000)"), 1);
        String products = "t(1" + "*2".repeat(60) + "=" + "0" + "+1-1".repeat(8) + ")";
        Due.due("its length", products.length(), 158);
        Due.due("2 times 2 sixty times is not 0", Due.rules(x, products), 1);
        x.turn(0, true);
        Due.due("2 to the 60th", x.goes(), 0);
    }

    private static void stands(String before, String can) {
        for (int sign = 0; sign < 256; sign++) {
            boolean may = sign > 0 && can.indexOf((char) sign) >= 0;
            int answer = Due.rules(new SaggingNet(), before + (char) sign);
            int place = before.length();
            // Whatever can stand there is no FAULT at its place; most TEXTS have one at their end then.
            boolean there = answer == -1000 - place;
            Due.due("sign " + sign + " behind " + before, !there, may);
        }
    }

    /** FAULT 1: what can't stand there, of all 256 bytes. */
    private static void whatCanStandInATextOfWires() {
        String factor = DIGITS + OF_WIRES + "[";
        String piece = factor + "(!";
        String more = "+-*/%";
        stands("", "to");
        stands("t", "(");
        stands("t(", piece);
        stands("t(!", piece);
        stands("t((", piece);
        stands("t(m=0&", piece);
        stands("t(m=0|", piece);
        stands("t([", factor);
        stands("t(m+", factor);
        stands("t(m-", factor);
        stands("t(m*", factor);
        stands("t(m/", factor);
        stands("t(m%", factor);
        stands("t(m<", factor);
        stands("t(m>", factor);
        stands("t(m=", factor);
        stands("t(m", more + "<>=");
        stands("t(1", more + "<>=" + DIGITS);
        stands("t(12345", more + "<>=" + DIGITS);
        stands("t([m]", more + "<>=");
        stands("t([m", more + "]");
        stands("t([1", more + "]" + DIGITS);
        stands("t([[m]", more + "]");
        stands("t(m=m", more + "&|)");
        stands("t(m=1", more + "&|)" + DIGITS);
        stands("t(m=[1]", more + "&|)");
        stands("t(!m", more + "<>=");
        stands("t(!m=m", more + "&|)");
        stands("t((m=m)", "&|)");
        stands("t(!(m=m)", "&|)");
        stands("t(m=m)", ";");
        stands("t(m=m);", "to");
        stands("t(m=m);o(m=m)", ";");
    }

    private static void whatCanStandInATextOfWorks() {
        String factor = DIGITS + OF_WORKS + "[";
        stands("o", "(");
        stands("o(", factor + "(!");
        stands("o(g=0|", factor + "(!");
        stands("o(x+", factor);
        stands("o(x=", factor);
        stands("o([", factor);
        stands("o(g", "+-*/%<>=");
        stands("t(f=l);o(", factor + "(!");
        stands("o(g=x);t(", DIGITS + OF_WIRES + "[(!");
        stands("o(g=x)", ";");
    }

    /** FAULT 1: the end, too. */
    private static void theEndCantStandThere() {
        String text = "t(!(m+[i*2]<123456|n=0)&r>1);o((g)";
        for (int n = 1; n < text.length(); n++) {
            boolean stands = n == 28;
            if (n < 33) {
                Due.due("the end at " + n, Due.rules(new SaggingNet(), text.substring(0, n)), stands ? 1 : -1000 - n);
            }
        }
        Due.due("but what can't stand is ahead of the end", Due.rules(new SaggingNet(), text), -1033);
    }

    /** FAULT 2: a seventh digit, at it. */
    private static void theSeventhDigit() {
        SaggingNet x = new SaggingNet();
        Due.due("one digit", Due.rules(x, "t(1=0)"), 1);
        Due.due("six digits", Due.rules(x, "t(999999=000000)"), 1);
        Due.due("seven", Due.rules(x, "t(9999999=0)"), -2008);
        Due.due("seven, the first ones 0", Due.rules(x, "t(0000001=0)"), -2008);
        Due.due("eight", Due.rules(x, "t(12345678=0)"), -2008);
        Due.due("the last byte", Due.rules(x, "t(1234567"), -2008);
        Due.due("behind six the end is a fault 1", Due.rules(x, "t(123456"), -1008);
        Due.due("of the second number", Due.rules(x, "t(123456+1234567=0)"), -2015);
        Due.due("in brackets", Due.rules(x, "t([1234567]=0)"), -2009);
        Due.due("on the right", Due.rules(x, "o(g=1234567)"), -2010);
        Due.due("in the last clause", Due.rules(x, "o(g=1);t(l=1234567)"), -2017);
        Due.due("six and a letter", Due.rules(x, "t(123456m=0)"), -1008);
    }

    /** FAULT 4: a 13th CLAUSE, at its letter (if that can stand there). */
    private static void theThirteenthClause() {
        SaggingNet x = new SaggingNet();
        String eleven = "t(m=0);".repeat(11);
        String twelve = "t(m=0);".repeat(12);
        Due.due("eleven", Due.rules(x, eleven.substring(0, 76)), 11);
        Due.due("twelve", Due.rules(x, twelve.substring(0, 83)), 12);
        Due.due("twelve there are", x.count(5), 12);
        Due.due("a thirteenth t", Due.rules(x, twelve + "t(m=0)"), -4084);
        Due.due("a thirteenth o", Due.rules(x, twelve + "o(m=0)"), -4084);
        Due.due("its letter alone", Due.rules(x, twelve + "t"), -4084);
        Due.due("whatever is behind it", Due.rules(x, twelve + "t)))"), -4084);
        Due.due("no letter of a clause", Due.rules(x, twelve + "m"), -1084);
        Due.due("a ; at its place", Due.rules(x, twelve + ";t"), -1084);
        Due.due("the end at its place", Due.rules(x, twelve), -1084);
        Due.due("no ; ahead of it", Due.rules(x, twelve.substring(0, 83) + "t(m=0)"), -1083);
        Due.due("of WORKS as well", Due.rules(x, "o(m=0);".repeat(12) + "t(m=0)"), -4084);
        Due.due("of both as well", Due.rules(x, "o(m=0);t(m=0);".repeat(6) + "o"), -4084);
        Due.due("a fault ahead of it", Due.rules(x, "t(m=0);".repeat(11) + "t(m=);t(m=0)"), -1081);
        Due.due("twelve still", x.count(5), 12);
    }

    /** FAULT 5: a seventh of ( [ ! that are open in one another, at it. */
    private static void theSeventhOpen() {
        String[] six = {"t((((((m=0))))))", "t(!!!!!m=0)", "t([[[[[m]]]]]=0)", "t(m=[[[[[m]]]]])", "t(!(!([m]=0)))",
            "t(((![[m]]=0)))", "t(!!!!!m=0&!!!!!m=0|!!!!!m=0)", "t((((((m=0)))))|(((((m=0))))))",
            "t([[[[[m]]]]]+[[[[[m]]]]]=[[[[[m]]]]])", "t(!!!!(m=0)&!m=0)", "t(!!!![m]=[m]&[[[[[m]]]]]=0)",
            "t(!(m=0)&!(m=0)&!(m=0)&!(m=0)&!(m=0)&!(m=0))"};
        for (String text : six) {
            Due.due(text, Due.rules(new SaggingNet(), text), 1);
        }
        String[] seven = {"t((((((", "t(!!!!!", "t([[[[[", "t(m=[[[[[", "t(!(!([", "t(((![[", "t(!!!!!m=0&!!!!!",
            "t((((((m=0)))))|(((((", "t([[[[[m]]]]]+[[[[[", "t(m=0);o([[[[["};
        for (String text : seven) {
            String open = text.endsWith("[") ? "[" : "([!";
            for (int i = 0; i < open.length(); i++) {
                String whole = text + open.charAt(i) + "m";
                Due.due(whole, Due.rules(new SaggingNet(), whole), -5000 - text.length());
            }
        }
        // Where none of them can stand it is a FAULT 1, how many so ever are open.
        Due.due("no ( in an E", Due.rules(new SaggingNet(), "t([[[[[("), -1007);
        Due.due("no ! in an E", Due.rules(new SaggingNet(), "t(m=[[[[[!"), -1009);
        Due.due("no [ behind a letter", Due.rules(new SaggingNet(), "t(!!!!!m["), -1008);
        Due.due("no ( behind a PIECE", Due.rules(new SaggingNet(), "t((((((m=0("), -1010);
    }

    /** The first from the left. */
    private static void theFirstFaultFromTheLeft() {
        SaggingNet x = new SaggingNet();
        Due.due("a digit, then others", Due.rules(x, "t(1234567=0;x"), -2008);
        Due.due("an open one, then a digit", Due.rules(x, "t(!!!!!!1234567"), -5007);
        Due.due("a digit, then an open one", Due.rules(x, "t(1234567=0&!!!!!!m"), -2008);
        Due.due("a blank, then a digit", Due.rules(x, "t( 1234567=0)"), -1002);
        Due.due("a blank at the end", Due.rules(x, "t(m=0) "), -1006);
        Due.due("a blank within", Due.rules(x, "t(m =0)"), -1003);
    }

    /** r: the RESERVE of its ISLAND, k the LAND of a WIRE's SPOT a, of WORKS that of its SPOT. */
    private static void lettersByIslands() {
        Due.due("reserve 7 of wire 0", takenOff("t(r=7)"), 1);
        Due.due("reserve 3 of wire 1", takenOff("t(r=3)"), 2);
        Due.due("reserve 0 of works 2", takenOff("o(r=0)"), 4);
        Due.due("reserve 7 of works 0", takenOff("o(r=7)"), 1);
        Due.due("land of a of wire 0", takenOff("t(k=1)"), 1);
        Due.due("land of a of wire 1", takenOff("t(k=0)"), 2);
        Due.due("not that of b", takenOff("t(k=2|k=3)"), 0);
        Due.due("land of works 1", takenOff("o(k=2)"), 2);
        Due.due("land of works 2", takenOff("o(k=3)"), 4);
        Due.due("d: the LOAD of spot 4 is SHED", takenOff("t(d=9)"), 3);
    }

    /** Islands 0-1 (10 to give for 3), 2-3 (8 for 5) and 4 (9 for 9): which wires, or works, a TEXT takes off. */
    private static int takenOff(String text) {
        SaggingNet x = new SaggingNet();
        x.spot(2, 3, 5);
        x.spot(1, 0, 5);
        x.spot(0, 5, 5);
        x.spot(2, 0, 5);
        x.spot(3, 9, 5);
        x.works(1, 10, 0);
        x.works(3, 8, 0);
        x.works(4, 9, 0);
        x.wire(1, 0, 1, 100, 100);
        x.wire(2, 3, 1, 100, 100);
        if (text.indexOf('d') >= 0) {
            x.shed(4, true);
        }
        Due.rules(x, text);
        x.goes();
        int bits = 0;
        for (int i = 0; i < 3; i++) {
            boolean off = text.charAt(0) == 't' ? x.wireIs(i, 0) == 2 : x.worksAre(i, 0) == 0;
            bits |= off ? 1 << i : 0;
        }
        return bits;
    }

    /** n: how many WIRES went DOWN or were TRIPPED in the MINUTE before; nothing by hand. */
    private static void howManyWent() {
        SaggingNet x = new SaggingNet();
        x.spot(0, 0, 0);
        x.spot(0, 0, 0);
        x.works(0, 1, 0);
        for (int w = 0; w < 5; w++) {
            x.wire(0, 1, 1, 1, w < 2 ? 10 : 100);
        }
        x.tree(0, 10);
        x.tree(1, 10);
        Due.rules(x, "t(m=0&i=2);o(n=3)");
        Due.due("two DOWN and one TRIPPED", x.goes(), 3);
        x.turn(3, false);
        x.mend(0);
        Due.due("three: the works, by hand nothing", x.goes(), 1);
        x.run(0, true);
        Due.due("none went in the minute before", x.goes(), 0);
        Due.rules(x, "o(n>0)");
        x.turn(4, false);
        Due.due("nothing by hand", x.goes(), 0);
    }

    /** What is divided by 0 is REFUSED: then the whole C that is asked does not hold. */
    private static void refusedByEachDivision() {
        String[] refused = {"1/0=0", "1%0=0", "1/[m-m]=0", "!1/0=0", "!(1/0=0)", "!(!1%0=0)", "1=1&1/0<9",
            "1/0=0|1=1", "(1/0=0)|1=1", "1=1+1/0*0", "0/0=0", "0%0=0", "1=2|1%[1-1]=0|1=1"};
        for (String c : refused) {
            SaggingNet x = ByHandTest.twoSpots();
            Due.due(c, Due.rules(x, "t(" + c + ")"), 1);
            Due.due("nothing by " + c, x.goes(), 0);
        }
        String[] notAsked = {"1=1|1/0=0", "1=2&1/0=0|1=1", "!(1=2&1%0=0)", "(1=1|1/0=1)&1=1", "0/1=0", "0%1=0"};
        for (String c : notAsked) {
            SaggingNet x = ByHandTest.twoSpots();
            Due.due(c, Due.rules(x, "t(" + c + ")"), 1);
            Due.due("tripped by " + c, x.goes(), 1);
        }
        SaggingNet y = ByHandTest.twoSpots();
        Due.due("another clause is asked for itself", Due.rules(y, "t(1/0=0);t(1=1);o(1%0=0)"), 3);
        Due.due("and holds", y.goes(), 1);
    }

    /** All is reckoned with 64 bits, as the machine does. */
    private static void sixtyFourBits() {
        String big = "65536*65536*65536";
        String[] hold = {big + "*32767>0", big + "*32768<0", big + "*65536=0", big + "*32768=0-" + big + "*32768",
            big + "*32768/[0-1]=" + big + "*32768", big + "*32768%[0-1]=0", big + "*32768-1>0",
            "999999*999999*999999>0", "999999*999999*999999*999999<999999", "0-7/2=0-3", "[0-7]/2=0-3",
            "[0-7]%2=0-1", "7/[0-2]=0-3", "7%[0-2]=1"};
        for (String c : hold) {
            SaggingNet x = ByHandTest.twoSpots();
            Due.due(c, Due.rules(x, "t(" + c + ")"), 1);
            Due.due("tripped by " + c, x.goes(), 1);
        }
    }
}
