import java.nio.charset.StandardCharsets;
import java.util.function.Supplier;
import java.util.function.ToIntFunction;

/** What all tests use: an answer against the one that is due, and objects with a told ARCHIVE. */
final class Due {
    static final int NULL = -1000011, PLACE = -1000012, KIND = -1000013, SIZE = -1000014, STORE = -1000015;

    private int checked;
    private int wrong;

    void is(String call, long got, long want) {
        checked++;
        if (got == want) return;
        wrong++;
        System.out.println(call + " answered " + got + ", due is " + want);
    }

    void is(String call, Object got, Object want) {
        checked++;
        if (got.equals(want)) return;
        wrong++;
        System.out.println(call + " gave " + got + ", due is " + want);
    }

    /** "What is refused, or found, changes nothing but status()" */
    void refused(String call, Supplier<InkTaken> making, ToIntFunction<InkTaken> calling, int want) {
        InkTaken x = making.get();
        int ahead = x.status();
        boolean finding = want <= NULL && want >= STORE;
        is(call, calling.applyAsInt(x), want);
        is("status behind " + call, x.status(), finding ? -1000010 - want : ahead);
        unchanged(call, making, calling);
    }

    /** A call changes nothing but status(): told by twins, of which one is called and one is not. */
    void unchanged(String call, Supplier<InkTaken> making, ToIntFunction<InkTaken> calling) {
        InkTaken called = making.get();
        calling.applyAsInt(called);
        is("what is seen behind " + call, seenButStatus(called), seenButStatus(making.get()));
        InkTaken other = making.get();
        calling.applyAsInt(other);
        is("what is hidden behind " + call, hidden(other), hidden(making.get()));
    }

    /** Ends the test: with exit code 1, if an answer was wrong. */
    void end() {
        System.out.println(checked + " answers, " + wrong + " wrong");
        if (wrong > 0 || checked == 0) System.exit(1);
    }

    static void feed(InkTaken x, String text) {
        for (byte one : text.getBytes(StandardCharsets.ISO_8859_1)) x.feed(one & 255);
    }

    static int read(InkTaken x, String text) {
        feed(x, text);
        return x.archive();
    }

    static InkTaken told(String text) {
        InkTaken x = new InkTaken();
        int answer = read(x, text);
        if (answer < 1) throw new IllegalStateException(text + " is no archive: " + answer);
        return x;
    }

    /** A ROW with these ITEMS, of ints. */
    static void lay(InkTaken x, int row, int... items) {
        x.row(row, 2, items.length);
        for (int i = 0; i < items.length; i++) x.set(row, i, items[i]);
    }

    /**
     * An object with something of everything: four HANDS, six COPIES of which one is white, three DEEDS, ACTS,
     * ROWS of each LANE, IMAGE 0 (and no other), a TRACE, a FAULT (2), a FINDING (2), a byte on the tape.
     */
    static InkTaken inUse() {
        InkTaken x = told("i10,6;s2;p1;r4;l3;w0,0,3;w1,1,2;w1,2,5;w2,3,4;a3,0,9;y6,1,5;a4,0,4;");
        x.days(1);
        x.image(0);
        x.write(3, 0, 4);
        x.days(2);
        x.recall(1);
        x.write(5, 2, 9);
        read(x, "i0");
        lay(x, 2, -1, 2, -1, 3, 0, -1, -1, 5);
        x.row(0, 0, 3);
        x.set(0, 1, -1);
        x.row(1, 1, 0);
        x.ask(1, 0);
        x.feed('i');
        x.set(0, 3, 0);
        return x;
    }

    /** All that can be seen of an object without a change. */
    static String seen(InkTaken x) {
        StringBuilder all = new StringBuilder();
        for (int what = 0; what < 9; what++) all.append(x.count(what)).append(' ');
        for (int one = 0; one < 10; one++) {
            all.append("| ");
            for (int what = 0; what < 6; what++) all.append(x.copyOf(one, what)).append(' ');
            for (int what = 0; what < 3; what++) all.append(x.hand(one, what)).append(' ');
            for (int what = 0; what < 5; what++) all.append(x.deed(one, what)).append(' ');
            for (int what = 0; what < 2; what++) all.append(x.place(one, what)).append(' ');
            all.append(x.kind(one));
        }
        all.append("| ");
        for (int i = 0; i < 16; i++) all.append(x.trace(i)).append(' ');
        return all.append(x.fault()).append(' ').append(x.status()).toString();
    }

    private static String seenButStatus(InkTaken x) {
        String all = seen(x);
        return all.substring(0, all.lastIndexOf(' '));
    }

    /** What shows by changes alone: what ACTS undo, the tape, ROWS (by a seal's copy), IMAGES. */
    private static String hidden(InkTaken x) {
        StringBuilder all = new StringBuilder();
        for (int k = 0; k < 25; k++) all.append(x.undo()).append(counts(x)).append("| ");
        all.append(x.archive()).append(' ').append(read(x, "i1,1;l0;w0,0,1;")).append(' ');
        for (int row = 0; row < 8; row++) {
            for (int i = 0; i < 9; i++) all.append(x.forged(row, i)).append(' ');
            all.append(x.set(row, 0, 100000)).append("| ");
        }
        for (int k = 0; k < 2; k++) {
            all.append(x.restore(k)).append(counts(x));
            for (int copy = 0; copy < 10; copy++) all.append(x.copyOf(copy, 3)).append(' ').append(x.copyOf(copy, 4)).append(' ');
        }
        return all.toString();
    }

    /** COPIES, DAY, COINS, white ones. */
    private static String counts(InkTaken x) {
        return " " + x.count(2) + " " + x.count(4) + " " + x.count(5) + " " + x.count(6) + " ";
    }
}
