import java.io.IOException;
import java.lang.reflect.Method;
import java.nio.file.Files;
import java.nio.file.Path;

/** README.md: the calls that it shows answer what it says, and it names every call. */
public final class ReadmeTest {
    public static void main(String[] args) throws IOException {
        aNewObject();
        whatARefusedCallAnswers();
        aTextOfRules();
        everyCallIsNamed();
        Due.end();
    }

    private static void aNewObject() {
        SaggingNet net = new SaggingNet();
        int source = net.spot(0, 0, 9);
        int town = net.spot(1, 90, 5);
        Due.due("works", net.works(source, 300, 5), 0);
        int wire = net.wire(source, town, 1, 100, 5000);
        Due.due("flow", net.flow(wire), 9000);
        Due.due("tree", net.tree(wire, 4990), true);
        Due.due("cool", net.cool(60), true);
        Due.due("the wire goes down", net.goes(), 1);
        Due.due("its kind", net.event(0, 0), 1);
        Due.due("its number", net.event(0, 1), wire);
        Due.due("its warmth", net.wireIs(wire, 1), 30);
        Due.due("shed as it stands", net.spotIs(town, 2), 1);
        Due.due("not yet for good", net.spotIs(town, 1), 0);
        Due.due("the town is shed", net.goes(), 1);
        Due.due("for good", net.spotIs(town, 1), 1);
        Due.due("what led to it", net.event(1, 3), 0);
        Due.due("the least", net.least(0, 10), 2);
    }

    private static void whatARefusedCallAnswers() {
        SaggingNet net = new SaggingNet();
        Due.due("no land 4", net.spot(4, 0, 0), SaggingNet.NONE);
        Due.due("no wire to turn", net.turn(0, true), false);
        Due.due("no wire, no flow", net.flow(0), -1000000000L);
        Due.due("no works, no order", net.again(SaggingNet.NONE), -2);
        Due.due("the tape is empty", net.check(1), -2);
        Due.due("the tape is empty for rules", net.rules(1), SaggingNet.NONE);
        net.feed(0x74280000, 0, 0, 0, 0);
        Due.due("fault 1 at place 2", net.rules(5), -1002);
        Due.due("the tape is emptied", net.count(8), 0);
        net.spot(0, 1, 0);
        Due.due("nothing holds a load without works but shedding", net.least(0, 1), 1);
        net.works(0, 1, 0);
        Due.due("works of which none begins alone", net.again(0), -2);
        Due.due("no such place", net.again(1), SaggingNet.NONE);
    }

    private static void aTextOfRules() {
        SaggingNet net = new SaggingNet();
        Due.due("feed", net.feed(0x7428663e, 0x35353030, 0x29202020, 0x20202020, 0x20202020), 20);
        Due.due("rules", net.rules(9), 1);
        Due.due("a longer text", Due.rules(net, "t(f>l*90&w>100|n>1);o(r=0)"), 2);
    }

    private static void everyCallIsNamed() throws IOException {
        String page = Files.readString(Path.of("README.md"));
        for (Method call : SaggingNet.class.getDeclaredMethods()) {
            if (java.lang.reflect.Modifier.isPublic(call.getModifiers())) {
                Due.due("README.md names " + call.getName(), page.contains("`" + call.getName() + "("), true);
            }
        }
    }
}
