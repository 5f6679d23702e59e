import java.lang.management.ManagementFactory;
import java.lang.reflect.InvocationTargetException;
import java.lang.reflect.Method;
import java.lang.reflect.Modifier;
import java.util.Arrays;
import java.util.Comparator;
import java.util.Random;

/**
 * Calls of any kind with any numbers: none throws, none makes an object, and a refused one changes STATUS alone, as long
 * as what is answered is promised.
 */
final class WildTest {
    private static final int RUNS = 2000;
    private static final int CALLS = 300;
    /** What later calls of an object answer is free. */
    private static final int PROMISED_CALLS = 512;
    private static final int CALLS_TO_BUILD = 110;
    private static final int CALLS_TO_CHECK_ONE = 9;
    /** What one object may take: far less than a room holds. */
    private static final long MOST_BYTES = 200_000;
    private static final int[] EDGES = {Integer.MIN_VALUE, Integer.MAX_VALUE, -100, -11, -5, -4, -3, -2, -1, 0, 1, 2, 3, 4, 5,
        6, 7, 8, 9, 10, 11, 19, 20, 21, 99, 100, 200, 201, 299, 300, 301, 999, 1000, 1 << 30};

    private static final Check CHECK = new Check();

    public static void main(String[] args) throws ReflectiveOperationException {
        wildCalls();
        dearCallsMakeNothing();
        CHECK.end("WildTest");
    }

    private static void wildCalls() throws ReflectiveOperationException {
        Method[] all = Arrays.stream(SlipHunt.class.getDeclaredMethods()).filter(m -> Modifier.isPublic(m.getModifiers()))
                .sorted(Comparator.comparing(Method::getName)).toArray(Method[]::new);
        for (int run = 0; run < RUNS; run++) {
            Random dice = new Random(run);
            SlipHunt x = run % 2 == 0 ? new SlipHunt() : full(dice);
            for (int call = 0; call < CALLS; call++) {
                Method m = all[dice.nextInt(all.length)];
                Object[] arguments = new Object[m.getParameterCount()];
                for (int i = 0; i < arguments.length; i++) {
                    arguments[i] = any(m.getParameterTypes()[i], dice);
                }
                int used = (run % 2 == 0 ? 0 : CALLS_TO_BUILD) + (call + 1) * CALLS_TO_CHECK_ONE;
                if (used <= PROMISED_CALLS) {
                    one(x, m, arguments);
                } else {
                    invoke(x, m, arguments);
                }
            }
        }
    }

    private static void invoke(SlipHunt x, Method m, Object[] arguments) throws ReflectiveOperationException {
        try {
            m.invoke(x, arguments);
        } catch (InvocationTargetException e) {
            CHECK.fail(m.getName() + Arrays.toString(arguments) + " threw " + e.getCause());
        }
    }

    private static void one(SlipHunt x, Method m, Object[] arguments) throws ReflectiveOperationException {
        int[] before = {x.status(0), x.status(1), x.status(2)};
        long digest = x.digest();
        invoke(x, m, arguments);
        int refused = x.status(0) + x.status(1) + x.status(2) - before[0] - before[1] - before[2];
        CHECK.that(m.getName() + " was refused " + refused + " times", refused == 0 || refused == 1);
        CHECK.that(m.getName() + Arrays.toString(arguments) + " was refused, but changed", refused == 0 || digest == x.digest());
    }

    private static Object any(Class<?> type, Random dice) {
        if (type == boolean.class) {
            return dice.nextBoolean();
        }
        if (type == long.class) {
            return dice.nextInt(3) > 0 ? 0x706c6163653b2020L : dice.nextLong();
        }
        return dice.nextInt(3) > 0 ? dice.nextInt(7) : EDGES[dice.nextInt(EDGES.length)];
    }

    private static SlipHunt full(Random dice) {
        SlipHunt x = new SlipHunt();
        for (int p = 0; p < 10; p++) {
            x.place();
            x.way(p, dice.nextInt(p + 1), 1 + dice.nextInt(9));
            x.way(p, p - 1, 9);
        }
        for (int c = 0; c < 6; c++) {
            x.child(dice.nextInt(3) > 0, dice.nextInt(10), dice.nextInt(10), dice.nextInt(10), dice.nextInt(10));
            x.join(c, dice.nextInt(2));
        }
        for (int s = 0; s < 8; s++) {
            x.slip(dice.nextInt(10), dice.nextInt(4));
            x.means(s, dice.nextInt(10));
            x.means(s, dice.nextInt(10));
        }
        for (int s = 0; s < 6; s++) {
            x.row(0, s);
            x.row(1, 7 - s);
        }
        x.put(0, 6);
        return x;
    }

    private static void dearCallsMakeNothing() {
        com.sun.management.ThreadMXBean threads = (com.sun.management.ThreadMXBean) ManagementFactory.getThreadMXBean();
        long self = Thread.currentThread().getId();
        new SlipHunt();
        threads.getThreadAllocatedBytes(self);
        long start = threads.getThreadAllocatedBytes(self);
        SlipHunt x = new SlipHunt();
        long made = threads.getThreadAllocatedBytes(self) - start;
        CHECK.that("an object takes " + made + " bytes", made < MOST_BYTES);
        x = full(new Random(5));
        dear(x);
        start = threads.getThreadAllocatedBytes(self);
        for (int i = 0; i < 30; i++) {
            dear(x);
        }
        long later = threads.getThreadAllocatedBytes(self) - start;
        CHECK.that("calls made " + later + " bytes", later < 1000);
    }

    private static void dear(SlipHunt x) {
        x.order(0, 0);
        x.kinds(0, 0);
        x.apart(0);
        x.sooner(0);
        x.ends(0, 0, 999);
        x.fair(1);
        x.soon(0);
        x.image(0);
        x.from(0);
        x.clear();
        x.type(0x706c6163653bL, 6);
        x.digest();
    }
}
