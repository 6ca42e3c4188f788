import java.lang.management.ManagementFactory;
import java.lang.reflect.Method;
import java.lang.reflect.Modifier;
import java.util.Arrays;
import java.util.Random;
import java.util.TreeSet;

/** Any calls in any state: none throws, a refusal changes nothing, nothing is made but the object itself. */
public final class AnyCallTest {
    private static final Random LOT = new Random(38);
    private static final int[] ODD = {Integer.MIN_VALUE, Integer.MIN_VALUE + 1, -10000, -100, -2, -1, 100, 256,
        Integer.MAX_VALUE - 1, Integer.MAX_VALUE};
    private static final int[] MOSTS = {2, 4, 6, 10, 49, 100};

    public static void main(String[] args) throws Exception {
        face();
        Method[] calls = calls();
        for (int run = 0; run < 300; run++) {
            anyCalls(calls);
        }
        nothingIsMade();
        Due.end();
    }

    private static void face() {
        TreeSet<String> names = new TreeSet<>();
        for (Method m : PromisesKept.class.getDeclaredMethods()) {
            if (!Modifier.isPrivate(m.getModifiers())) {
                names.add(m.getName() + m.getParameterCount() + m.getReturnType());
            }
        }
        TreeSet<String> due = new TreeSet<>(Arrays.asList(("type1 wipe0 fault0 want2 set3 after3 read1 forgive2 undo0 "
            + "held1 waiting1 trust2 means2 made2 without3 gain1 best0 room4 price1 hoarder0 rings0 freed1 depth1 "
            + "seen3 forget0 fits1 unlike2 owed3 cleared1 sheet3 lose1 put4 get3 copy5 write2 count1").replace(" ", "int ")
            .concat("int digest0long").split(" ")));
        Due.is("the face is the document's: " + names, names.equals(due) ? 1 : 0, 1);
        Due.is("public fields", PromisesKept.class.getFields().length, 4);
        Due.is("constructors", PromisesKept.class.getConstructors().length, 1);
        Due.is("final", Modifier.isFinal(PromisesKept.class.getModifiers()) ? 1 : 0, 1);
    }

    private static Method[] calls() {
        Method[] calls = PromisesKept.class.getDeclaredMethods();
        calls = Arrays.stream(calls).filter(m -> Modifier.isPublic(m.getModifiers())).toArray(Method[]::new);
        Arrays.sort(calls, (a, b) -> a.getName().compareTo(b.getName()));
        return calls;
    }

    private static void anyCalls(Method[] calls) throws Exception {
        PromisesKept x = Due.with(LOT.nextBoolean() ? "0100055;1200109;2305992;5403072;0102031" : "");
        for (int n = 0; n < 400; n++) {
            Method call = calls[LOT.nextInt(calls.length)];
            Object[] with = new Object[call.getParameterCount()];
            for (int i = 0; i < with.length; i++) {
                with[i] = LOT.nextInt(8) == 0 ? ODD[LOT.nextInt(ODD.length)]
                    : LOT.nextInt(MOSTS[LOT.nextInt(MOSTS.length)]);
            }
            long was = n % 8 == 0 ? x.digest() : 0;
            long answer = 0;
            try {
                answer = ((Number) call.invoke(x, with)).longValue();
            } catch (java.lang.reflect.InvocationTargetException e) {
                Due.is(call.getName() + Arrays.toString(with) + " threw " + e.getCause(), 1, 0);
            }
            boolean refused = answer <= -2 && answer >= -15 && !call.getName().equals("digest");
            if (n % 8 == 0 && refused) {
                Due.is(call.getName() + Arrays.toString(with) + " refused, and digest()", x.digest(), was);
            }
        }
    }

    /** Rows are made in the constructor alone, so that all calls of a run fit in their room. */
    private static void nothingIsMade() {
        PromisesKept x = new PromisesKept();
        com.sun.management.ThreadMXBean bean = (com.sun.management.ThreadMXBean) ManagementFactory.getThreadMXBean();
        long thread = Thread.currentThread().getId();
        allCalls(x);
        bean.getThreadAllocatedBytes(thread);
        long before = bean.getThreadAllocatedBytes(thread);
        allCalls(x);
        long made = bean.getThreadAllocatedBytes(thread) - before;
        Due.is("bytes made by calls, " + made + ", are few", made < 1024 ? 1 : 0, 1);
    }

    private static void allCalls(PromisesKept x) {
        x.wipe();
        for (int n = 0; n < 79; n++) {
            x.type("0100055;1200109;2305992;5403072;0102031;".charAt(n % 40));
        }
        for (int n = 0; n < 50; n++) {
            x.sheet(n % 4, 2, n % 49);
            x.write(n, n % 4);
            x.put(0, 2, 0, n);
            x.copy(0, 0, 0, 0, 0);
            x.get(0, 2, 0);
            x.read(n % 4);
            x.after(n % 10, n * 3 % 10, 1);
            x.forgive(n, n % 10);
            x.seen(n, n % 10, n & 1);
            x.without(0, 0, 0);
            x.digest();
            x.forget();
            x.undo();
            x.lose(n % 4);
        }
    }
}
