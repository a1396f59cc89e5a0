/** Promises 1 to 5 and 37: rows, and the findings of calls with them. */
public final class RowsTest {
    private static final Due DUE = new Due();

    public static void main(String[] args) {
        newObject();
        rowLaid();
        itemsSet();
        itemsCopied();
        copyFindings();
        rowDropped();
        statusKept();
        DUE.end();
    }

    private static void newObject() {
        InkTaken x = new InkTaken();
        for (int what = 0; what < 9; what++) DUE.is("new: count " + what, x.count(what), 0);
        DUE.is("new: fault", x.fault(), 0);
        DUE.is("new: status", x.status(), 0);
        DUE.is("new: trace", x.trace(0), InkTaken.NONE);
        DUE.is("new: days", x.days(1), InkTaken.STATE);
        for (int row = 0; row < 8; row++) DUE.is("new: a row is missing", x.drop(row), Due.NULL);
    }

    private static void rowLaid() {
        InkTaken x = new InkTaken();
        DUE.is("row of none", x.row(0, 0, 0), 0);
        DUE.is("longest row", x.row(7, 2, 40), 40);
        DUE.is("rows", x.count(0), 2);
        DUE.is("row in place of one", x.row(7, 1, 3), 3);
        DUE.is("rows still", x.count(0), 2);
        DUE.is("row too long", x.row(7, 1, 41), InkTaken.BAD);
        DUE.is("row below 0", x.row(-1, 1, 4), InkTaken.BAD);
        DUE.is("row 8", x.row(8, 1, 4), InkTaken.BAD);
        DUE.is("lane below 0", x.row(1, -1, 4), InkTaken.BAD);
        DUE.is("lane 3", x.row(1, 3, 4), InkTaken.BAD);
        DUE.is("fewer than none", x.row(1, 0, -1), Due.SIZE);
        DUE.is("its status", x.status(), 4);
        DUE.is("BAD comes ahead of SIZE (row)", x.row(8, 0, -1), InkTaken.BAD);
        DUE.is("BAD comes ahead of SIZE (lane)", x.row(1, 3, -1), InkTaken.BAD);
        DUE.is("least int is SIZE", x.row(1, 0, Integer.MIN_VALUE), Due.SIZE);
        DUE.is("the row that was found stays missing", x.drop(1), Due.NULL);
        DUE.is("the row that was refused stays as it was", x.drop(7), 3);
    }

    private static void itemsSet() {
        InkTaken x = new InkTaken();
        x.row(0, 0, 2);
        x.row(1, 1, 2);
        x.row(2, 2, 40);
        DUE.is("byte 127", x.set(0, 0, 127), 127);
        DUE.is("byte 128", x.set(0, 0, 128), -128);
        DUE.is("byte 255", x.set(0, 1, 255), -1);
        DUE.is("byte 256", x.set(0, 1, 256), 0);
        DUE.is("byte -129", x.set(0, 1, -129), 127);
        DUE.is("short 32767", x.set(1, 0, 32767), 32767);
        DUE.is("short 32768", x.set(1, 0, 32768), -32768);
        DUE.is("short 65537", x.set(1, 1, 65537), 1);
        DUE.is("int", x.set(2, 39, Integer.MIN_VALUE), Integer.MIN_VALUE);
        DUE.is("int", x.set(2, 0, 70000), 70000);
        DUE.is("beyond the end", x.set(0, 2, 1), Due.PLACE);
        DUE.is("its status", x.status(), 2);
        DUE.is("below 0", x.set(0, -1, 1), Due.PLACE);
        DUE.is("far beyond", x.set(0, Integer.MAX_VALUE, 1), Due.PLACE);
        DUE.is("beyond 40", x.set(2, 40, 1), Due.PLACE);
        DUE.is("missing", x.set(3, 0, 1), Due.NULL);
        DUE.is("missing comes ahead of place", x.set(3, -1, 1), Due.NULL);
        DUE.is("its status", x.status(), 1);
        DUE.is("no such row", x.set(8, 0, 1), InkTaken.BAD);
        DUE.is("no such row", x.set(-1, 0, 1), InkTaken.BAD);
        DUE.is("a set that is fine", x.set(0, 0, 1), 1);
        DUE.is("its status", x.status(), 0);
    }

    /** What rows hold is seen by forged: of six seals' copies on DAY 0 none can have gone white on a DAY. */
    private static int spoken(InkTaken x, int row, int from) {
        return x.forged(row, from);
    }

    private static InkTaken sixSeals() {
        return Due.told("i1,1;l0;w0,0,1;w0,0,1;w0,0,1;w0,0,1;w0,0,1;w0,0,1;");
    }

    private static void itemsCopied() {
        InkTaken x = sixSeals();
        x.row(0, 0, 7);
        DUE.is("items are 0 at first", spoken(x, 0, 0), 63);
        for (int i = 0; i < 7; i++) x.set(0, i, -1);
        DUE.is("nothing said", spoken(x, 0, 0), 0);
        x.set(0, 1, 5);
        DUE.is("one said", spoken(x, 0, 0), 2);
        DUE.is("from 1 on", spoken(x, 0, 1), 1);
        x.row(1, 0, 9);
        DUE.is("copy", x.copy(0, 0, 1, 2, 7), 7);
        DUE.is("copied", spoken(x, 1, 0), 0b1011);
        DUE.is("copy of none at the end", x.copy(0, 7, 1, 9, 0), 0);
        DUE.is("up within one row", x.copy(0, 0, 0, 1, 6), 6);
        DUE.is("as they were ahead", spoken(x, 0, 0), 0b100);
        DUE.is("down within one row", x.copy(0, 1, 0, 0, 6), 6);
        DUE.is("as they were ahead", spoken(x, 0, 0), 0b10);
        DUE.is("a row laid anew", x.row(0, 0, 6), 6);
        DUE.is("its items are 0", spoken(x, 0, 0), 63);
        DUE.is("its status", x.status(), 0);
    }

    private static void copyFindings() {
        InkTaken x = new InkTaken();
        x.row(0, 0, 4);
        x.row(1, 1, 4);
        x.row(2, 0, 2);
        DUE.is("no such row", x.copy(8, 0, 0, 0, 0), InkTaken.BAD);
        DUE.is("no such row", x.copy(0, 0, 8, 0, 0), InkTaken.BAD);
        DUE.is("no such row", x.copy(-1, 0, 0, 0, 0), InkTaken.BAD);
        DUE.is("BAD comes ahead of NULL", x.copy(3, 0, -1, 0, 0), InkTaken.BAD);
        DUE.is("from a missing one", x.copy(3, 0, 0, 0, 0), Due.NULL);
        DUE.is("to a missing one", x.copy(0, 0, 3, 0, 0), Due.NULL);
        DUE.is("NULL comes ahead of PLACE", x.copy(0, -1, 3, 0, 9), Due.NULL);
        DUE.is("two lanes", x.copy(0, 0, 1, 0, 1), Due.STORE);
        DUE.is("its status", x.status(), 5);
        DUE.is("two lanes, none", x.copy(0, 0, 1, 0, 0), Due.STORE);
        DUE.is("STORE comes ahead of PLACE", x.copy(0, 9, 1, 9, -9), Due.STORE);
        DUE.is("i below 0", x.copy(0, -1, 2, 0, 1), Due.PLACE);
        DUE.is("j below 0", x.copy(0, 0, 2, -1, 1), Due.PLACE);
        DUE.is("n below 0", x.copy(0, 0, 2, 0, -1), Due.PLACE);
        DUE.is("i beyond", x.copy(0, 4, 2, 0, 1), Due.PLACE);
        DUE.is("j beyond", x.copy(0, 0, 2, 1, 2), Due.PLACE);
        DUE.is("i beyond, none", x.copy(0, 5, 2, 0, 0), Due.PLACE);
        DUE.is("sums that wrap", x.copy(0, Integer.MAX_VALUE, 2, 0, Integer.MAX_VALUE), Due.PLACE);
        DUE.is("sums that wrap", x.copy(0, 1, 2, 1, Integer.MAX_VALUE), Due.PLACE);
        DUE.is("its status", x.status(), 2);
        DUE.is("up to both ends", x.copy(0, 2, 2, 0, 2), 2);
        DUE.is("its status", x.status(), 0);
    }

    private static void rowDropped() {
        InkTaken x = new InkTaken();
        x.row(5, 1, 12);
        x.row(6, 1, 0);
        DUE.is("drop", x.drop(5), 12);
        DUE.is("dropped", x.drop(5), Due.NULL);
        DUE.is("its status", x.status(), 1);
        DUE.is("an empty one is no missing one", x.drop(6), 0);
        DUE.is("its status", x.status(), 0);
        DUE.is("no such row", x.drop(8), InkTaken.BAD);
        DUE.is("no such row", x.drop(-1), InkTaken.BAD);
        DUE.is("rows", x.count(0), 0);
    }

    private static void statusKept() {
        InkTaken x = new InkTaken();
        x.row(0, 0, -1);
        x.row(9, 0, 0);
        DUE.is("BAD leaves it", x.status(), 4);
        x.forged(0, 0);
        DUE.is("STATE leaves it", x.status(), 4);
        x.feed('i');
        x.archive();
        x.ask(0, 0);
        x.days(1);
        DUE.is("other calls leave it", x.status(), 4);
        DUE.is("asking for it leaves it", x.status(), 4);
        x.drop(0);
        DUE.is("a new finding", x.status(), 1);
        x.row(0, 0, 1);
        DUE.is("none", x.status(), 0);
        Due.read(x, "i1,1;p0;");
        x.as(0, 4);
        DUE.is("that of as", x.status(), 3);
        x.as(1, 0);
        x.as(0, 6);
        DUE.is("BAD of as leaves it", x.status(), 3);
        x.as(0, 1);
        DUE.is("none of as", x.status(), 0);
        x.forged(0, 2);
        DUE.is("that of forged", x.status(), 2);
        x.forged(0, 1);
        DUE.is("none of forged", x.status(), 0);
    }
}
