import java.util.LinkedHashMap;
import java.util.Map;

/** All that can be asked of a net, but for what takes from the tape. */
final class Look {
    private final SaggingNet x;
    private final int minutes;
    private final int spots;
    private final int wires;
    private final int works;
    private final int events;
    private final int rows;
    private final Map<String, Long> seen = new LinkedHashMap<>();

    private Look(SaggingNet x) {
        this.x = x;
        minutes = x.count(0);
        spots = x.count(1);
        wires = x.count(2);
        works = x.count(3);
        events = x.count(4);
        rows = x.count(6);
    }

    static Map<String, Long> at(SaggingNet x) {
        Look look = new Look(x);
        look.counts();
        look.net();
        look.events();
        look.screens();
        look.played();
        look.rows();
        look.order();
        return look.seen;
    }

    private void see(String call, long answer) {
        seen.put(call, answer);
    }

    private void counts() {
        for (int what = 0; what <= 10; what++) {
            see("count(" + what + ")", x.count(what));
        }
        for (int w = 0; w < wires; w++) {
            see("count(" + (20 + w) + ")", x.count(20 + w));
        }
    }

    private void net() {
        for (int s = 0; s < spots; s++) {
            for (int what = 0; what < 5; what++) {
                see("spotIs(" + s + ", " + what + ")", x.spotIs(s, what));
            }
        }
        for (int w = 0; w < wires; w++) {
            see("flow(" + w + ")", x.flow(w));
            for (int what = 0; what < 4; what++) {
                see("wireIs(" + w + ", " + what + ")", x.wireIs(w, what));
            }
        }
        for (int k = 0; k < works; k++) {
            see("worksAre(" + k + ", 0)", x.worksAre(k, 0));
            see("worksAre(" + k + ", 1)", x.worksAre(k, 1));
        }
    }

    private void events() {
        for (int e = 0; e < events; e++) {
            for (int what = 0; what < 4; what++) {
                see("event(" + e + ", " + what + ")", x.event(e, what));
            }
        }
        for (int m = 0; m < minutes; m++) {
            see("bear(" + m + ")", x.bear(m));
        }
        see("firstBorne()", x.firstBorne());
    }

    private void screens() {
        for (int k = 0; k < 4; k++) {
            for (int w = 0; w < wires; w++) {
                for (int what = 0; what < 3; what++) {
                    see("shown(" + k + ", " + w + ", " + what + ")", x.shown(k, w, what));
                }
            }
            see("sign(" + k + ")", x.sign(k));
        }
    }

    private void played() {
        for (int m = 0; m <= minutes; m++) {
            see("held(" + m + ", 0, 3)", x.held(m, 0, 3));
            see("least(" + m + ", 3)", x.least(m, 3));
        }
        see("last(0, 3)", x.last(0, 3));
        see("cut(2, 5, 0)", x.cut(2, 5, 0));
        see("cut(2, 5, 1)", x.cut(2, 5, 1));
    }

    private void rows() {
        for (int a = 0; a < rows; a++) {
            for (int b = 0; b < rows; b++) {
                see("order(" + a + ", " + b + ")", x.order(a, b));
            }
        }
    }

    private void order() {
        for (int i = -1; i < works; i++) {
            see("again(" + i + ")", x.again(i));
        }
    }
}
