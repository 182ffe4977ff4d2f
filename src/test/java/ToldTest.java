/** Promises 1 to 4: a new object, SPOTS, WIRES, WORKS. */
public final class ToldTest {
    public static void main(String[] args) {
        aNewObject();
        spots();
        wires();
        works();
        notAfterNowIsZero();
        Due.end();
    }

    private static void aNewObject() {
        SaggingNet x = new SaggingNet();
        for (int what = 0; what <= 8; what++) {
            Due.due("new count " + what, x.count(what), 0);
        }
        Due.due("new cool", x.count(9), 100);
        Due.due("new dark", x.count(10), 0);
        Due.due("new cost", x.count(20), -1);
        Due.due("new event", x.event(0, 0), -1);
        Due.due("new flow", x.flow(0), -1000000000L);
        Due.due("new bear", x.bear(0), -1);
        Due.due("new firstBorne", x.firstBorne(), -1);
        Due.due("new held", x.held(0, 0, 30), 1);
        Due.due("new last", x.last(0, 1), 0);
        Due.due("new least", x.least(0, 1), 0);
        Due.due("new again", x.again(-1), -2);
        Due.due("new cut", x.cut(0, 1, 0), 0);
        Due.due("new check", x.check(0), -1);
        Due.due("NONE", SaggingNet.NONE, -1);
    }

    private static void spots() {
        SaggingNet x = new SaggingNet();
        Due.due("land -1", x.spot(-1, 0, 0), -1);
        Due.due("land 4", x.spot(4, 0, 0), -1);
        Due.due("load -1", x.spot(0, -1, 0), -1);
        Due.due("load 2001", x.spot(0, 2001, 0), -1);
        Due.due("rank -1", x.spot(0, 0, -1), -1);
        Due.due("rank 10", x.spot(0, 0, 10), -1);
        Due.due("least spot", x.spot(0, 0, 0), 0);
        Due.due("greatest spot", x.spot(3, 2000, 9), 1);
        for (int s = 2; s < 8; s++) {
            Due.due("spot " + s, x.spot(0, 1, 1), s);
        }
        Due.due("a ninth spot", x.spot(0, 1, 1), -1);
        Due.due("spots", x.count(1), 8);
        Due.due("its load", x.spotIs(1, 0), 2000);
        Due.due("lit at first", x.spotIs(1, 1), 0);
    }

    private static void wires() {
        SaggingNet x = new SaggingNet();
        Due.due("no spots yet", x.wire(0, 1, 1, 1, 1), -1);
        x.spot(0, 0, 0);
        x.spot(0, 0, 0);
        Due.due("one spot twice", x.wire(1, 1, 1, 1, 1), -1);
        Due.due("no spot a", x.wire(2, 0, 1, 1, 1), -1);
        Due.due("no spot b", x.wire(0, 2, 1, 1, 1), -1);
        Due.due("spot -1", x.wire(-1, 0, 1, 1, 1), -1);
        Due.due("b -1", x.wire(0, -1, 1, 1, 1), -1);
        Due.due("ease 0", x.wire(0, 1, 0, 1, 1), -1);
        Due.due("ease 4", x.wire(0, 1, 4, 1, 1), -1);
        Due.due("limit 0", x.wire(0, 1, 1, 0, 1), -1);
        Due.due("limit 5001", x.wire(0, 1, 1, 5001, 1), -1);
        Due.due("room 0", x.wire(0, 1, 1, 1, 0), -1);
        Due.due("room 100001", x.wire(0, 1, 1, 1, 100001), -1);
        Due.due("least wire", x.wire(0, 1, 1, 1, 1), 0);
        Due.due("greatest wire", x.wire(1, 0, 3, 5000, 100000), 1);
        for (int w = 2; w < 14; w++) {
            Due.due("wire " + w, x.wire(0, 1, 1, 1, 1), w);
        }
        Due.due("a fifteenth wire", x.wire(0, 1, 1, 1, 1), -1);
        Due.due("wires", x.count(2), 14);
        Due.due("on at first", x.wireIs(13, 0), 0);
        Due.due("cold at first", x.wireIs(13, 1), 0);
        Due.due("no tree at first", x.wireIs(13, 2), 0);
        Due.due("cost at first", x.count(33), 1);
    }

    private static void works() {
        SaggingNet x = new SaggingNet();
        Due.due("no spots yet", x.works(0, 1, 1), -1);
        x.spot(0, 0, 0);
        Due.due("spot 1", x.works(1, 1, 1), -1);
        Due.due("spot -1", x.works(-1, 1, 1), -1);
        Due.due("most 0", x.works(0, 0, 1), -1);
        Due.due("most 5001", x.works(0, 5001, 1), -1);
        Due.due("price -1", x.works(0, 1, -1), -1);
        Due.due("price 100", x.works(0, 1, 100), -1);
        Due.due("least works", x.works(0, 1, 0), 0);
        Due.due("greatest works", x.works(0, 5000, 99), 1);
        for (int k = 2; k < 9; k++) {
            Due.due("works " + k, x.works(0, 1, 1), k);
        }
        Due.due("a tenth works", x.works(0, 1, 1), -1);
        Due.due("works", x.count(3), 9);
        Due.due("on at first", x.worksAre(8, 0), 1);
    }

    private static void notAfterNowIsZero() {
        SaggingNet x = new SaggingNet();
        x.spot(0, 0, 0);
        x.spot(0, 0, 0);
        x.goes();
        Due.due("spot at 1", x.spot(0, 0, 0), -1);
        Due.due("wire at 1", x.wire(0, 1, 1, 1, 1), -1);
        Due.due("works at 1", x.works(0, 1, 1), -1);
        Due.due("spots", x.count(1), 2);
        Due.due("wires", x.count(2), 0);
        Due.due("works", x.count(3), 0);
    }
}
