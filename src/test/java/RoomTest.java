import com.sun.management.ThreadMXBean;
import java.lang.management.ManagementFactory;
import java.lang.reflect.Array;
import java.lang.reflect.Field;
import java.lang.reflect.Modifier;
import java.util.IdentityHashMap;
import java.util.Map;

/**
 * All calls of one run live in one room of some 600,000 objects and 7.3 million fields and elements: an
 * object takes little of it, and no call takes any, whatever is asked of it.
 */
public final class RoomTest {
    private static final Due DUE = new Due();
    /** Far below the room, so that thousands of objects fit. */
    private static final int MOST_OBJECTS = 100, MOST_ELEMENTS = 2000;
    private static final ThreadMXBean THREADS = (ThreadMXBean) ManagementFactory.getThreadMXBean();

    private static final Map<Object, Boolean> SEEN = new IdentityHashMap<>();
    private static int elements;

    public static void main(String[] args) throws ReflectiveOperationException {
        walk(new InkTaken());
        DUE.is("objects of a new object: " + SEEN.size(), SEEN.size() <= MOST_OBJECTS, true);
        DUE.is("elements of a new object: " + elements, elements <= MOST_ELEMENTS, true);
        InkTaken x = Due.inUse();
        callAll(x, new InkTaken());
        SEEN.clear();
        elements = 0;
        walk(x);
        DUE.is("objects of one in use: " + SEEN.size(), SEEN.size() <= MOST_OBJECTS, true);
        DUE.is("elements of one in use: " + elements, elements <= MOST_ELEMENTS, true);
        noCallTakesRoom();
        DUE.end();
    }

    private static void walk(Object one) throws ReflectiveOperationException {
        if (one == null || SEEN.put(one, true) != null) return;
        if (one.getClass().isArray()) {
            elements += Array.getLength(one);
            boolean numbers = one.getClass().getComponentType().isPrimitive();
            for (int i = 0; !numbers && i < Array.getLength(one); i++) walk(Array.get(one, i));
            return;
        }
        for (Field field : one.getClass().getDeclaredFields()) {
            if (Modifier.isStatic(field.getModifiers())) continue;
            elements++;
            field.setAccessible(true);
            if (!field.getType().isPrimitive()) walk(field.get(one));
        }
    }

    /** By the bytes that this thread was given: the first rounds may load classes, a later one takes none. */
    private static void noCallTakesRoom() {
        if (!THREADS.isThreadAllocatedMemorySupported()) return;
        long me = Thread.currentThread().getId();
        long least = Long.MAX_VALUE;
        for (int round = 0; round < 20; round++) {
            InkTaken x = Due.inUse();
            InkTaken bare = new InkTaken();
            long ahead = THREADS.getThreadAllocatedBytes(me);
            callAll(x, bare);
            least = Math.min(least, THREADS.getThreadAllocatedBytes(me) - ahead);
        }
        long ahead = THREADS.getThreadAllocatedBytes(me);
        long measuring = THREADS.getThreadAllocatedBytes(me) - ahead;
        DUE.is("bytes that all calls take", least, measuring);
    }

    private static void callAll(InkTaken x, InkTaken bare) {
        for (int k = -1; k < 5; k++) {
            callRows(x, k);
            callDone(x, k);
            callForetold(x, k);
            callForetold(bare, k);
            callAsked(x, k);
        }
        for (int letter = 0; letter < 150; letter++) x.feed(letter % 2 == 0 ? 'i' : '1');
        x.archive();
        x.restore(0);
        bare.archive();
        bare.undo();
    }

    private static void callRows(InkTaken x, int k) {
        x.row(k, k, 40);
        x.set(k, k, k);
        x.copy(k, 0, k, 1, 5);
        x.forged(2, k);
        x.drop(k);
        x.status();
    }

    private static void callDone(InkTaken x, int k) {
        x.write(k, k, k);
        x.recall(k);
        x.days(k);
        x.undo();
        for (int what = 0; what < 6; what++) {
            x.copyOf(k, what);
            x.hand(k, what);
            x.deed(k, what);
            x.place(k, what);
        }
        x.image(1);
        x.restore(1);
        x.fault();
    }

    private static void callForetold(InkTaken x, int k) {
        for (int what = 0; what < 3; what++) {
            x.falls(15, what);
            x.pair(what);
            x.ahead(200, what);
            x.doubles(k, 5, what);
            x.blanks(9, what);
            x.itself(k, k, what);
            x.years(100, 77, what);
        }
        x.ransom(k);
        x.first(k, 200);
        x.safe(k);
        x.law(k, 15);
        x.order(k);
    }

    private static void callAsked(InkTaken x, int k) {
        x.kind(k);
        x.as(k, 1);
        for (int what = 0; what < 2; what++) x.ask(k, what);
        x.trace(k);
        for (int what = 0; what < 10; what++) x.count(what);
    }
}
