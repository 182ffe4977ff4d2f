import java.lang.reflect.Constructor;
import java.lang.reflect.Method;
import java.lang.reflect.Modifier;
import java.util.Arrays;
import java.util.List;

/** The face is the document's and nothing more, and no call throws, whatever its arguments. */
public final class WildTest {
    private static final List<String> FACE = List.of(
            "int spot(int, int, int)", "int wire(int, int, int, int, int)", "int works(int, int, int)",
            "boolean tree(int, int)", "boolean cool(int)", "boolean turn(int, boolean)",
            "boolean run(int, boolean)", "boolean shed(int, boolean)", "boolean load(int, int)",
            "boolean mend(int)", "int feed(int, int, int, int, int)", "int rules(int)", "int goes()",
            "long flow(int)", "int wireIs(int, int)", "int worksAre(int, int)", "int spotIs(int, int)",
            "int event(int, int)", "int bear(int)", "int firstBorne()", "boolean stop(int, boolean)",
            "long shown(int, int, int)", "int sign(int)", "int held(int, int, int)", "int last(int, int)",
            "int least(int, int)", "boolean clock(int, int, int)", "int row(int, int)",
            "boolean before(int, int)", "int order(int, int)", "boolean begins(int, boolean, int)",
            "long again(int)", "boolean cost(int, int)", "int cut(int, int, int)", "int check(int)",
            "int count(int)");
    private static final int[] WILD = {Integer.MIN_VALUE, Integer.MIN_VALUE + 1, -1000000, -257, -3, -2, -1,
        14, 15, 16, 31, 32, 33, 40, 63, 64, 99, 100, 101, 160, 161, 255, 256, 499, 500, 2000, 5000, 9999,
        65536, 357913942, 1 << 30, Integer.MAX_VALUE - 1, Integer.MAX_VALUE};

    private static long seed = 4;

    public static void main(String[] args) throws ReflectiveOperationException {
        face();
        Method[] calls = SaggingNet.class.getDeclaredMethods();
        Arrays.sort(calls, (a, b) -> told(a).compareTo(told(b)));
        for (int run = 0; run < 400; run++) {
            wildRun(calls);
        }
        onNothing(calls);
        Due.end();
    }

    private static void face() throws ReflectiveOperationException {
        int found = 0;
        for (Method m : SaggingNet.class.getDeclaredMethods()) {
            if (!Modifier.isPrivate(m.getModifiers())) {
                found++;
                Due.due(told(m), FACE.contains(told(m)) && Modifier.isPublic(m.getModifiers()), true);
            }
        }
        Due.due("methods", found, FACE.size());
        Due.due("final", Modifier.isFinal(SaggingNet.class.getModifiers()), true);
        Constructor<?>[] made = SaggingNet.class.getDeclaredConstructors();
        Due.due("constructors", made.length, 1);
        Due.due("without arguments", made[0].getParameterCount(), 0);
        Due.due("constants", SaggingNet.class.getFields().length, 1);
        Due.due("NONE", SaggingNet.class.getField("NONE").getInt(null), -1);
    }

    private static String told(Method m) {
        String name = m.getReturnType() + " " + m.getName() + Arrays.toString(m.getParameterTypes());
        return name.replace('[', '(').replace(']', ')');
    }

    private static int below(int n) {
        seed = seed * 6364136223846793005L + 1442695040888963407L;
        return (int) ((seed >>> 33) % n);
    }

    private static void wildRun(Method[] calls) {
        SaggingNet x = new SaggingNet();
        int tame = 2 + below(8);
        for (int i = 0; i < 512; i++) {
            Method m = i < 40 ? teller(calls) : calls[below(calls.length)];
            if (!Modifier.isPrivate(m.getModifiers())) {
                call(x, m, tame);
            }
        }
    }

    private static Method teller(Method[] calls) {
        String[] tellers = {"spot", "spot", "wire", "works", "tree", "feed"};
        String name = tellers[below(tellers.length)];
        for (Method m : calls) {
            if (m.getName().equals(name)) {
                return m;
            }
        }
        return calls[0];
    }

    private static void onNothing(Method[] calls) {
        for (Method m : calls) {
            if (!Modifier.isPrivate(m.getModifiers())) {
                for (int i = 0; i < 50; i++) {
                    call(new SaggingNet(), m, 2);
                }
            }
        }
    }

    private static void call(SaggingNet x, Method m, int tame) {
        Object[] with = new Object[m.getParameterCount()];
        for (int i = 0; i < with.length; i++) {
            boolean wild = below(tame) == 0;
            with[i] = m.getParameterTypes()[i] == boolean.class ? (Object) (below(2) == 0)
                    : (Object) (wild ? WILD[below(WILD.length)] : below(10));
        }
        int threw = 0;
        try {
            m.invoke(x, with);
        } catch (ReflectiveOperationException e) {
            threw = 1;
        }
        Due.due(m.getName() + Arrays.toString(with) + " throws", threw, 0);
    }
}
