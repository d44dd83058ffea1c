import com.sun.management.ThreadMXBean;
import java.lang.management.ManagementFactory;
import java.lang.reflect.Method;
import java.lang.reflect.Modifier;

/** No call throws, whatever it is given; and calls leave next to nothing behind in the room. */
public final class RoomTest {
    private static final int[] GIVEN = {Integer.MIN_VALUE, -1000, -1, 0, 1, 2, 5, 6, 7, 99, 1000,
        Integer.MAX_VALUE};
    private static final int CALLS = 512;
    private static final long MOST_BYTES_MADE = 40000;
    private static final long MOST_BYTES_BY_CALLS = 60000;
    private static int wrong = 0;

    private static Object[] drawn(Method method, int seed) {
        Class<?>[] types = method.getParameterTypes();
        Object[] given = new Object[types.length];
        long state = seed * 2654435761L + 12345;
        for (int k = 0; k < types.length; k++) {
            state = state * 6364136223846793005L + 1442695040888963407L;
            int number = (int) (state >>> 33);
            given[k] = types[k] == int.class ? (Object) GIVEN[number % GIVEN.length]
                : (Object) (number % 2 == 0);
        }
        return given;
    }

    private static void extremes() {
        int seed = 0;
        for (int round = 0; round < 200; round++) {
            RowPivots x = new RowPivots();
            for (Method method : RowPivots.class.getDeclaredMethods()) {
                for (int k = 0; k < 12 && Modifier.isPublic(method.getModifiers()); k++) {
                    Object[] given = drawn(method, seed++);
                    try {
                        method.invoke(x, given);
                    } catch (ReflectiveOperationException thrown) {
                        wrong++;
                        System.out.println(method + " threw " + thrown.getCause());
                    }
                }
            }
        }
    }

    private static int oneOfEach(RowPivots x, int k) {
        switch (k % 10) {
            case 0: return x.set(k % 6, k % 7, k - 300, 1 + k % 99);
            case 1: return x.count(5);
            case 2: return x.inverse(k % 6, k % 5, false);
            case 3: return x.minor(k % 6, k % 5, false);
            case 4: return x.would(k % 7, 3, 4, k % 6, false);
            case 5: return x.add(k % 6, k % 5, 1, 2);
            case 6: return x.reduce(k % 3);
            case 7: return x.residue(k % 6, true);
            case 8: return x.image(k % 3) && x.again(k % 2) ? 1 : 0;
            default:
                x.feed(0x73697a65, 0x20362036, 0x3b736574, 0x20302031, 0x20372f33);
                x.feed(0x3b737761, 0x70203020, 0x313b2020, 0x20202020, 0x20202020);
                return x.text();
        }
    }

    private static void room() {
        ThreadMXBean bean = (ThreadMXBean) ManagementFactory.getThreadMXBean();
        long thread = Thread.currentThread().getId();
        int sum = 0;
        for (int warm = 0; warm < 20; warm++) {
            sum += oneOfEach(new RowPivots(), warm);
        }
        long start = bean.getThreadAllocatedBytes(thread);
        RowPivots x = new RowPivots();
        long made = bean.getThreadAllocatedBytes(thread);
        for (int k = 0; k < CALLS; k++) {
            sum += oneOfEach(x, k);
        }
        long called = bean.getThreadAllocatedBytes(thread);
        System.out.println("bytes: an object " + (made - start) + ", " + CALLS + " calls "
            + (called - made) + " (" + sum + ")");
        if (made - start > MOST_BYTES_MADE || called - made > MOST_BYTES_BY_CALLS) {
            wrong++;
            System.out.println("that is more than the room should give");
        }
    }

    public static void main(String[] args) {
        extremes();
        room();
        System.out.println(wrong == 0 ? "nothing thrown, room left" : wrong + " are wrong");
        if (wrong != 0) {
            System.exit(1);
        }
    }
}
