import java.lang.reflect.InvocationTargetException;
import java.lang.reflect.Method;
import java.lang.reflect.Modifier;
import java.util.ArrayList;
import java.util.Arrays;
import java.util.Comparator;
import java.util.List;
import java.util.Random;

/** How long an object is used: its last call answers as an early one does; behind it answers are free, but none throws. */
public final class CallsTest {
    private static final Object[][] ASKED = {{"field", 13, 5}, {"divided", 3, 4}, {"pair", 3, 9}, {"entry", 1, 0, 5, 9}, {"set", 2, 0, 1},
        {"told", 2, 2}, {"told", 2, 4}, {"number", 2, 1, 0}, {"drop"}, {"name", 1, Asking.text("b")}, {"named", Asking.text("zz")},
        {"unname", 2}, {"nameAt", 1}, {"rank", 7}, {"stands", 4}, {"most"}, {"best", 3}, {"heavy", 1}, {"queue", 1}, {"greedy", 1},
        {"better", 4}, {"table", 0, 1, 3}, {"half", 0}, {"root", 1}, {"claim", 5, 20}, {"sure", 5, 20}, {"cover", 0, 2}, {"cheap", 1, 1},
        {"rays"}, {"ray", 3}, {"rayOf", 2, 1}, {"link", 0, 1, 0}, {"breaks", 1}, {"feedback", 2}, {"hold", 0, 2, 3}, {"asPair", 0, 2},
        {"asRay", 2, 3}, {"compare", 1, 2}, {"sheet", 0, 1, 30}, {"cell", 1, 2, Long.MIN_VALUE}, {"read", 1, 0}, {"load", 0, 3, 1},
        {"image"}, {"back"}, {"count", 3}, {"pair", 6, 0}, {"name", 1, Asking.text("a")}, {"link", 0, 4, 1}, {"better", 3},
        {"sheet", 0, 0, -1}, {"cell", 0, 0, 1L << 31}, {"asRay", 0, 0}, {"read", 3, 0}, {"queue", 4}};
    private static final Object[] EDGES = {Integer.MIN_VALUE, -100, -99, -2, -1, 0, 1, 2, 3, 4, 5, 6, 7, 8, 9, 10, 11, 20, 29, 30, 31, 63, 64,
        97, 99, 100, 255, 256, 999, 1000, 1023, 1024, 1 << 30, Integer.MAX_VALUE};
    private static final long[] LONGS = {0, 1, -1, Long.MIN_VALUE, Long.MAX_VALUE, Integer.MAX_VALUE, Integer.MAX_VALUE + 1L,
        Integer.MIN_VALUE - 1L, Asking.text("a"), Asking.text("zzzzzzz"), Asking.text("aaaaaaaa"), 1L << 62};

    public static void main(String[] args) throws Exception {
        lastCall();
        dearest();
        later();
        Asking.end("calls");
    }

    private static void says(String words) {
        Asking.says("What it is", words);
    }

    // ---- up to the last call

    private static void lastCall() {
        says("An object is used for at most 512 calls after it has been made;");
        for (Object[] one : ASKED) {
            PairsStand used = Asking.rich();
            while (Asking.askedOf(used) < Asking.CALLS - 1) {
                leaveAsItIs(used, Asking.askedOf(used));
            }
            Object[] values = Arrays.copyOfRange(one, 1, one.length);
            long early = Asking.ask(Asking.rich(), (String) one[0], values);
            Asking.is(used, early, (String) one[0], values);
            Asking.due("how many calls", Asking.askedOf(used), Asking.CALLS);
        }
    }

    /** Two calls that come to nothing, or one: a question, a refused call, one that tells what is so already. */
    private static void leaveAsItIs(PairsStand x, int k) {
        Object[][] nothing = {{"best", 2}, {"claim", k, 20}, {"cheap", k % 2, 1}, {"feedback", 1}, {"root", k % 4}, {"cover", 0, k % 16},
            {"pair", 6, 0}, {"link", 0, 5, 1}, {"name", 3, Asking.text("zz")}, {"load", 0, 1, 2}, {"hold", 1, 2, 4}, {"sheet", 2, 0, -1},
            {"cell", 0, 1, 1L << 40}, {"name", 0, Asking.text("a")}, {"unname", 1}, {"entry", 0, 1, 2, 1}, {"set", 1, 1, 3},
            {"cell", 1, 1, 2L}, {"hold", 3, 0, 0}, {"field", 11, 4}, {"sheet", 3, -1, 0}, {"link", 2, 0, 1}};
        int left = Asking.CALLS - 1 - Asking.askedOf(x);
        if (k % 5 == 0 && left >= 2) {
            Asking.ask(x, "pair", k % 6, k);
            Asking.ask(x, "drop");
        } else if (k % 5 == 1 && left >= 2) {
            Asking.ask(x, "link", 5, 6, 1);
            Asking.ask(x, "link", 6, 5, 0);
        } else {
            Object[] one = nothing[k % nothing.length];
            Asking.ask(x, (String) one[0], Arrays.copyOfRange(one, 1, one.length));
        }
    }

    /** A whole life of nothing but one call, in the state that costs the most; each answer is as the first one was. */
    private static void dearest() {
        Object[][] calls = {{"most"}, {"best", 3}, {"heavy", 0}, {"greedy", 0}, {"better", 0}, {"claim", 7, 20}, {"sure", 7, 20},
            {"cheap", 0, 0}, {"cheap", 1, 1}, {"rays"}, {"feedback", 2}, {"root", 0}, {"cover", 0, 0}, {"image"}};
        for (Object[] one : calls) {
            PairsStand x = Asking.sheet(Asking.full(), 0, 1, 1, 2, 3, 4, 5, 6, 7, 8, 9, 10);
            Object[] values = Arrays.copyOfRange(one, 1, one.length);
            long first = Asking.ask(x, (String) one[0], values);
            while (Asking.askedOf(x) < Asking.CALLS) {
                Asking.is(x, first, (String) one[0], values);
            }
        }
    }

    // ---- behind it

    private static void later() throws Exception {
        says("what later calls answer is free.");
        List<Method> face = new ArrayList<>();
        for (Method m : PairsStand.class.getDeclaredMethods()) {
            if (Modifier.isPublic(m.getModifiers())) {
                face.add(m);
            }
        }
        face.sort(Comparator.comparing(Method::getName));
        for (int seed = 0; seed < 20; seed++) {
            Random random = new Random(seed);
            PairsStand x = seed % 2 == 0 ? new PairsStand() : Asking.rich();
            long thrown = 0;
            for (int k = 0; k < 20000; k++) {
                thrown += thrownBy(x, face.get(random.nextInt(face.size())), random);
            }
            Asking.due("how many calls threw", thrown, 0);
        }
    }

    private static int thrownBy(PairsStand x, Method m, Random random) throws Exception {
        Object[] values = new Object[m.getParameterCount()];
        for (int i = 0; i < values.length; i++) {
            boolean isLong = m.getParameterTypes()[i] == long.class;
            Object small = random.nextInt(i == 0 ? 10 : 6);
            Object edge = EDGES[random.nextInt(EDGES.length)];
            values[i] = isLong ? (Object) LONGS[random.nextInt(LONGS.length)] : random.nextInt(3) > 0 ? small : edge;
        }
        try {
            m.invoke(x, values);
            return 0;
        } catch (InvocationTargetException e) {
            Asking.fail(m.getName() + Arrays.toString(values) + " threw " + e.getCause());
            return 1;
        }
    }
}
