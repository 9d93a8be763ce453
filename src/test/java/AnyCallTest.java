import java.lang.management.ManagementFactory;
import java.lang.reflect.InvocationTargetException;
import java.lang.reflect.Method;
import java.lang.reflect.Modifier;
import java.util.ArrayList;
import java.util.Comparator;
import java.util.List;
import java.util.Random;

/** No call throws, whatever is asked; the same calls give the same answers; calls make no objects. */
public final class AnyCallTest {
    private static final String TOWN = LookTest.TOWN;
    private static final int[] EDGES = {Integer.MIN_VALUE, Integer.MIN_VALUE + 1, -100, -2, -1, 0, 1, 2, 3, 4, 5, 7, 8, 9,
        10, 11, 12, 19, 20, 21, 31, 32, 33, 40, 41, 59, 60, 61, 100, 1023, 1024, 10000, 10001, 1000000,
        2000000000, Integer.MAX_VALUE - 1, Integer.MAX_VALUE};

    public static void main(String[] args) throws IllegalAccessException {
        List<Method> calls = new ArrayList<>();
        for (Method method : BellMoney.class.getDeclaredMethods()) {
            if (Modifier.isPublic(method.getModifiers())) {
                calls.add(method);
            }
        }
        calls.sort(Comparator.comparing(Method::getName));
        for (int seed = 0; seed < 300; seed++) {
            Check.same("the same calls, the same answers", run(calls, seed), run(calls, seed));
        }
        texts();
        makesNothing();
        Check.end();
    }

    private static long run(List<Method> calls, int seed) throws IllegalAccessException {
        Random random = new Random(seed);
        BellMoney x = new BellMoney();
        if (seed % 3 != 0) {
            Tell.town(x, TOWN);
        }
        long all = 0;
        for (int i = 0; i < 400; i++) {
            Method method = calls.get(random.nextInt(calls.size()));
            Object[] given = new Object[method.getParameterCount()];
            for (int k = 0; k < given.length; k++) {
                int one = random.nextBoolean() ? random.nextInt(6) : EDGES[random.nextInt(EDGES.length)];
                if (method.getParameterTypes()[k] == long.class) {
                    given[k] = (long) one;
                } else {
                    given[k] = one;
                }
            }
            if (method.getName().equals("town") && random.nextInt(20) != 0) {
                continue;
            }
            try {
                all = all * 31 + ((Number) method.invoke(x, given)).longValue();
            } catch (InvocationTargetException thrown) {
                Check.yes(method + " threw " + thrown.getCause(), false);
            }
        }
        return all;
    }

    /** Sound texts with a byte changed, taken out or cut off. */
    private static void texts() {
        Random random = new Random(7);
        String signs = " ;0123456789abelmnortuw\n#";
        for (int i = 0; i < 3000; i++) {
            StringBuilder text = new StringBuilder(TOWN);
            for (int k = random.nextInt(3); k >= 0; k--) {
                int at = random.nextInt(text.length());
                if (random.nextBoolean()) {
                    text.setCharAt(at, signs.charAt(random.nextInt(signs.length())));
                } else {
                    text.deleteCharAt(at);
                }
            }
            BellMoney x = new BellMoney();
            int lines = Tell.town(x, text.toString());
            int place = x.fault(1);
            Check.yes("a town or a fault", lines > 0 == (x.fault(0) == 0) && lines > 0 == place < 0);
            if (lines < 0) {
                Check.yes("a place", place >= 0 && place <= text.length());
                Check.yes("what is ahead of a fault has none there",
                        ahead(x, text.toString(), place));
            }
        }
    }

    private static boolean ahead(BellMoney x, String text, int place) {
        int lines = Tell.town(x, text.substring(0, place));
        return lines >= 0 || x.fault(0) == 1 && x.fault(1) == place;
    }

    private static void makesNothing() {
        com.sun.management.ThreadMXBean counter = (com.sun.management.ThreadMXBean) ManagementFactory.getThreadMXBean();
        BellMoney x = Tell.town(TOWN);
        BellMoney warm = Tell.town(TOWN);
        everything(warm);
        long thread = Thread.currentThread().getId();
        long before = counter.getThreadAllocatedBytes(thread);
        for (int i = 0; i < 100; i++) {
            everything(x);
        }
        long made = counter.getThreadAllocatedBytes(thread) - before;
        Check.yes("calls make no objects: " + made + " bytes", made < 20000);
        before = counter.getThreadAllocatedBytes(thread);
        new BellMoney();
        made = counter.getThreadAllocatedBytes(thread) - before;
        Check.yes("an object is small: " + made + " bytes", made < 100000);
    }

    private static void everything(BellMoney x) {
        x.melt(0);
        x.cast(55, 1, 1, 1);
        x.passes();
        x.image(0);
        x.back(0);
        x.row(0, 0, 6);
        x.plan(0, 0);
        x.enough();
        x.lightest();
        x.loud();
        x.silence();
        x.guarded();
        x.alloy(7, 0);
        x.casts(100, 0, 40);
        x.sure(22, -1, 0);
        x.hold();
        x.fills(0);
        x.paid(20);
        x.clear();
        x.changes();
        x.winters(1, 20);
        x.feed(1, 2, 3, 4, 5);
        x.town();
        x.end(0);
        x.anew();
    }
}
