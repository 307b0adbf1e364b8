import com.sun.management.ThreadMXBean;
import java.lang.management.ManagementFactory;
import java.lang.reflect.Field;
import java.lang.reflect.Modifier;

/** "All memory is made at first": no call makes an object, and no row is changed for another. */
public final class MemoryTest {
    private static final int TRIES = 20;

    public static void main(String[] args) {
        rowsAreNeverChangedForOthers(StateBench.class);
        for (Class<?> inside : StateBench.class.getDeclaredClasses()) {
            rowsAreNeverChangedForOthers(inside);
        }
        callsMakeNothing();
        Check.end();
    }

    private static void rowsAreNeverChangedForOthers(Class<?> owner) {
        for (Field field : owner.getDeclaredFields()) {
            if (!field.getType().isPrimitive()) {
                Check.due(field + " is final", Modifier.isFinal(field.getModifiers()), true);
            }
        }
    }

    // The first tries also load what the machine itself needs, so the least of all counts.
    private static void callsMakeNothing() {
        ThreadMXBean threads = (ThreadMXBean) ManagementFactory.getThreadMXBean();
        long least = Long.MAX_VALUE;
        for (int i = 0; i < TRIES; i++) {
            StateBench x = new StateBench(0);
            long before = threads.getCurrentThreadAllocatedBytes();
            useAll(x);
            least = Math.min(least, threads.getCurrentThreadAllocatedBytes() - before);
        }
        Check.due("the bytes that all calls make", least, 0);
    }

    /** Within the 512 calls that an object is used for. */
    private static void useAll(StateBench x) {
        for (int net = 0; net < 8; net++) {
            x.port(net, net + 1);
            x.friend(1, net, true);
            x.friend(2, net, true);
        }
        x.make();
        for (int number = 1; number <= 2; number++) {
            bring(x, 1, number);
            bring(x, 2, number);
            bring(x, 0, number);
            ask(x);
            x.pass(10);
            x.port(3, 100 + number);
            x.friend(2, 4, false);
            x.port(5, 0);
            x.make();
        }
        x.pass(10000);
        ask(x);
    }

    private static void bring(StateBench x, int origin, int number) {
        x.begin(origin, number);
        for (int net = 0; net < 12; net++) {
            x.entry(-1, net + number, 1);
            x.entry(origin == 0 ? 1 : 0, net, 1);
        }
        x.come();
    }

    private static void ask(StateBench x) {
        for (int i = 0; i < 8; i++) {
            x.number(i);
            x.entries(i);
            x.age(i);
            x.distance(i);
            x.cost(i);
            if (x.firsts(i) > 0) {
                x.first(i, 0);
            }
            if (x.entries(i) > 0) {
                x.told(i, 0, 0);
            }
        }
        x.known();
        x.time();
    }
}
