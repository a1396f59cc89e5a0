import java.nio.charset.StandardCharsets;

/** What all tests use: an answer against the one that is due, and objects with a told ARCHIVE. */
final class Due {
    static final int NULL = -1000011, PLACE = -1000012, KIND = -1000013, SIZE = -1000014, STORE = -1000015;

    private int checked;
    private int wrong;

    void is(String call, long got, long want) {
        checked++;
        if (got == want) return;
        wrong++;
        System.out.println(call + " answered " + got + ", due is " + want);
    }

    void is(String call, Object got, Object want) {
        checked++;
        if (got.equals(want)) return;
        wrong++;
        System.out.println(call + " gave " + got + ", due is " + want);
    }

    /** Ends the test: with exit code 1, if an answer was wrong. */
    void end() {
        System.out.println(checked + " answers, " + wrong + " wrong");
        if (wrong > 0 || checked == 0) System.exit(1);
    }

    static void feed(InkTaken x, String text) {
        for (byte one : text.getBytes(StandardCharsets.ISO_8859_1)) x.feed(one & 255);
    }

    static int read(InkTaken x, String text) {
        feed(x, text);
        return x.archive();
    }

    static InkTaken told(String text) {
        InkTaken x = new InkTaken();
        int answer = read(x, text);
        if (answer < 1) throw new IllegalStateException(text + " is no archive: " + answer);
        return x;
    }

    /** A ROW with these ITEMS, of ints. */
    static void lay(InkTaken x, int row, int... items) {
        x.row(row, 2, items.length);
        for (int i = 0; i < items.length; i++) x.set(row, i, items[i]);
    }

    /** All that can be seen of an object without a change. */
    static String seen(InkTaken x) {
        StringBuilder all = new StringBuilder();
        for (int what = 0; what < 9; what++) all.append(x.count(what)).append(' ');
        for (int one = 0; one < 10; one++) {
            all.append("| ");
            for (int what = 0; what < 6; what++) all.append(x.copyOf(one, what)).append(' ');
            for (int what = 0; what < 3; what++) all.append(x.hand(one, what)).append(' ');
            for (int what = 0; what < 5; what++) all.append(x.deed(one, what)).append(' ');
            for (int what = 0; what < 2; what++) all.append(x.place(one, what)).append(' ');
            all.append(x.kind(one));
        }
        all.append("| ");
        for (int i = 0; i < 16; i++) all.append(x.trace(i)).append(' ');
        return all.append(x.fault()).append(' ').append(x.status()).toString();
    }
}
