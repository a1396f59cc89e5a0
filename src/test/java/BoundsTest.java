import java.lang.reflect.InvocationTargetException;
import java.lang.reflect.Method;
import java.util.ArrayList;
import java.util.Arrays;
import java.util.List;
import java.util.function.Supplier;

/**
 * Every number of every call at its bounds: the least and the greatest are taken, those beside them and
 * the ends of int are refused as the call's promise says, and change nothing.
 */
public final class BoundsTest {
    private static final Due DUE = new Due();

    /** The numbers from least to most are taken; what is answered below these, and above. */
    private record Bound(int least, int most, int below, int above) { }

    private record Promise(int number, String call, int[] fine, Bound[] bounds) { }

    public static void main(String[] args) throws ReflectiveOperationException {
        run(Due::inUse, "in use");
        run(() -> Due.told("i1,1;s0;"), "one hand");
        run(() -> Due.told("i9,9;s0;p3;w0,1,1;a1,0,1;"), "two hands");
        run(() -> Due.told("i9,9;l0;h3;r1;" + "w5,2,9;".repeat(10) + "a1,0,1;".repeat(5)), "all copies and deeds");
        run(BoundsTest::restored, "restored");
        run(InkTaken::new, "no archive");
        DUE.end();
    }

    /** Of two ARCHIVES the one that stands bounds the numbers. */
    private static InkTaken restored() {
        InkTaken x = Due.told("i9,9;s0;p3;w0,1,1;a1,0,1;");
        x.image(0);
        Due.read(x, "i9,9;l0;h3;r1;s0;" + "w5,2,9;".repeat(9) + "a1,0,1;".repeat(4));
        x.restore(0);
        return x;
    }

    private static void run(Supplier<InkTaken> making, String name) throws ReflectiveOperationException {
        for (Promise one : promises(making.get())) {
            for (int k = 0; k < one.bounds.length; k++) check(making, name, one, k);
        }
    }

    private static void check(Supplier<InkTaken> making, String name, Promise one, int k) throws ReflectiveOperationException {
        Bound bound = one.bounds[k];
        for (int number : outside(bound)) {
            int[] numbers = one.fine.clone();
            numbers[k] = number;
            int due = number < bound.least ? bound.below : bound.above;
            DUE.refused(said(name, one, numbers), making, x -> call(x, one.call, numbers), due);
        }
        boolean fineHas = true;
        for (int j = 0; j < one.bounds.length; j++) fineHas &= j == k || has(one.bounds[j], one.fine[j]);
        if (!fineHas || bound.most < bound.least) return;
        for (int number : new int[] {bound.least, bound.most}) {
            int[] numbers = one.fine.clone();
            numbers[k] = number;
            int got = call(making.get(), one.call, numbers);
            DUE.is(said(name, one, numbers) + " is taken", got == bound.below || got == bound.above, false);
        }
    }

    private static boolean has(Bound bound, int number) {
        return number >= bound.least && number <= bound.most;
    }

    private static List<Integer> outside(Bound bound) {
        List<Integer> numbers = new ArrayList<>(List.of(bound.least - 1, Integer.MIN_VALUE));
        if (bound.most < bound.least) numbers.add(bound.least);
        numbers.addAll(List.of(bound.most + 1, Integer.MAX_VALUE));
        numbers.removeIf(number -> has(bound, number));
        return numbers;
    }

    private static String said(String name, Promise one, int[] numbers) {
        return "promise " + one.number + ", " + name + ": " + one.call + Arrays.toString(numbers);
    }

    private static int call(InkTaken x, String name, int... numbers) {
        Class<?>[] types = new Class<?>[numbers.length];
        Object[] values = new Object[numbers.length];
        for (int i = 0; i < numbers.length; i++) {
            types[i] = int.class;
            values[i] = numbers[i];
        }
        try {
            Method method = InkTaken.class.getMethod(name, types);
            return (int) method.invoke(x, values);
        } catch (InvocationTargetException thrown) {
            throw new IllegalStateException(name + Arrays.toString(numbers) + " threw", thrown.getCause());
        } catch (ReflectiveOperationException lacking) {
            throw new IllegalStateException(name, lacking);
        }
    }

    private static Bound bad(int least, int most) {
        return new Bound(least, most, InkTaken.BAD, InkTaken.BAD);
    }

    private static Promise promise(int number, String call, int[] fine, Bound... bounds) {
        return new Promise(number, call, fine, bounds);
    }

    private static int[] fine(int... numbers) {
        return numbers;
    }

    private static List<Promise> promises(InkTaken x) {
        boolean told = x.count(1) > 0;
        List<Promise> all = new ArrayList<>(ofAnyObject(x));
        all.addAll(ofThings(x));
        if (told) all.addAll(ofArchives(x));
        if (told && x.count(3) > 0) all.addAll(ofDeeds(x));
        if (told && x.count(0) > 0) all.addAll(ofRowsInUse());
        return all;
    }

    private static List<Promise> ofAnyObject(InkTaken x) {
        Bound row = bad(0, 7);
        return List.of(
            promise(2, "row", fine(3, 1, 4), row, bad(0, 2), new Bound(0, 40, Due.SIZE, InkTaken.BAD)),
            promise(3, "set", fine(2, 0, 0), row),
            promise(4, "copy", fine(2, 0, 2, 0, 0), row),
            promise(5, "drop", fine(2), row),
            promise(6, "feed", fine('a'), bad(0, 255)),
            promise(30, "image", fine(0), bad(0, 1)),
            promise(31, "restore", fine(0), bad(0, 1)),
            promise(35, "trace", fine(0), new Bound(0, x.trace(0) < 0 ? -1 : 5, InkTaken.NONE, InkTaken.NONE)),
            promise(36, "count", fine(0), bad(0, 8)));
    }

    /** Without an ARCHIVE there is no such thing, whatever its number. */
    private static List<Promise> ofThings(InkTaken x) {
        Bound hand = bad(0, x.count(1) - 1);
        Bound copy = bad(0, x.count(2) - 1);
        Bound deed = bad(0, x.count(3) - 1);
        return List.of(
            promise(10, "write", fine(0, 0, 1), x.count(1) > 0 ? bad(0, 5) : bad(0, -1), hand, bad(1, 9)),
            promise(11, "recall", fine(0), copy),
            promise(13, "copyOf", fine(0, 0), copy, bad(0, 5)),
            promise(14, "hand", fine(0, 0), hand, bad(0, 2)),
            promise(15, "deed", fine(0, 0), deed, bad(0, 4)),
            promise(18, "ransom", fine(0), hand),
            promise(21, "first", fine(0, 1), deed),
            promise(22, "safe", fine(0), copy),
            promise(23, "doubles", fine(0, 0, 0), deed),
            promise(24, "law", fine(0, 0), deed),
            promise(28, "itself", fine(0, 0, 0), deed),
            promise(32, "kind", fine(0), hand),
            promise(33, "as", fine(0, 0), hand, bad(0, 5)),
            promise(34, "ask", fine(0, 0), hand, bad(0, 1)));
    }

    private static List<Promise> ofArchives(InkTaken x) {
        Bound two = bad(0, 1);
        Bound sets = bad(0, (1 << x.count(1)) - 1);
        return List.of(
            promise(12, "days", fine(1), bad(1, 24)),
            promise(16, "place", fine(0, 0), bad(0, 5), two),
            promise(17, "falls", fine(0, 0), sets, two),
            promise(19, "pair", fine(0), two),
            promise(20, "ahead", fine(0, 0), bad(0, 200), bad(0, 2)),
            promise(25, "order", fine(0), bad(-1, 3)),
            promise(26, "blanks", fine(1, 0), bad(1, 90), two),
            promise(27, "forged", fine(2, 0), bad(0, 7)),
            promise(29, "years", fine(1, 1, 0), bad(0, 100), bad(1, 999999), two));
    }

    private static List<Promise> ofDeeds(InkTaken x) {
        Bound deed = bad(0, x.count(3) - 1);
        Bound sets = bad(0, (1 << x.count(1)) - 1);
        return List.of(
            promise(21, "first", fine(0, 1), deed, bad(1, 200)),
            promise(23, "doubles", fine(0, 0, 0), deed, sets, bad(0, 2)),
            promise(24, "law", fine(0, 0), deed, sets),
            promise(28, "itself", fine(0, 0, 0), deed, bad(0, 5), bad(0, 1)));
    }

    /** ROW 2 has eight ITEMS, ROW 0 three, ROW 1 none; there are six COPIES. */
    private static List<Promise> ofRowsInUse() {
        Bound row = bad(0, 7);
        return List.of(
            promise(3, "set", fine(2, 0, 9), row, places(0, 7)),
            promise(3, "set", fine(0, 0, 9), row, places(0, 2)),
            promise(3, "set", fine(1, 0, 9), row, places(0, -1)),
            promise(4, "copy", fine(2, 0, 2, 0, 0), row, places(0, 8), row, places(0, 8), places(0, 8)),
            promise(4, "copy", fine(2, 1, 2, 3, 4), row, places(0, 4), row, places(0, 4), places(0, 5)),
            promise(4, "copy", fine(1, 0, 1, 0, 0), row, places(0, 0), row, places(0, 0), places(0, 0)),
            promise(27, "forged", fine(2, 0), row, places(0, 2)),
            promise(27, "forged", fine(0, 0), row, places(0, -1)));
    }

    private static Bound places(int least, int most) {
        return new Bound(least, most, Due.PLACE, Due.PLACE);
    }
}
