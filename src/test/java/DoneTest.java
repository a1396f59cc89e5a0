/** Promises 9 to 16, 30, 31 and 36: acts, what undoes them, what stands, images, counts. */
public final class DoneTest {
    private static final Due DUE = new Due();
    /** Hands: a scribe, a poet, a drunk one, an heir; YEAR 10, REPENT 6. */
    private static final String FOUR = "i10,6;s2;p1;r4;h3;w0,0,3;w1,1,2;w1,2,5;w2,3,4;a7,0,9;y10,1,5;a12,0,4;";

    public static void main(String[] args) {
        copiesWritten();
        copiesRecalled();
        limits();
        daysPass();
        drunkCopies();
        deedsStand();
        placesAreBlack();
        whatIsAskedOfThings();
        actsUndone();
        actsForgotten();
        imagesKept();
        counts();
        DUE.end();
    }

    private static void copiesWritten() {
        InkTaken x = Due.told(FOUR);
        DUE.is("place 6", x.write(6, 0, 1), InkTaken.BAD);
        DUE.is("place -1", x.write(-1, 0, 1), InkTaken.BAD);
        DUE.is("hand 4", x.write(0, 4, 1), InkTaken.BAD);
        DUE.is("hand -1", x.write(0, -1, 1), InkTaken.BAD);
        DUE.is("width 0", x.write(0, 0, 0), InkTaken.BAD);
        DUE.is("width 10", x.write(0, 0, 10), InkTaken.BAD);
        DUE.is("nothing is spent", x.count(5), 0);
        x.days(3);
        DUE.is("write", x.write(5, 3, 9), 4);
        DUE.is("spent", x.count(5), 3);
        DUE.is("place", x.copyOf(4, 0), 5);
        DUE.is("hand", x.copyOf(4, 1), 3);
        DUE.is("width", x.copyOf(4, 2), 9);
        DUE.is("day", x.copyOf(4, 3), 3);
        DUE.is("white", x.copyOf(4, 4), 0);
        for (int copy = 5; copy < 10; copy++) DUE.is("write", x.write(0, 2, 1), copy);
        DUE.is("spent", x.count(5), 3 + 5 * 4);
        DUE.is("no room", x.write(0, 2, 1), InkTaken.FULL);
        DUE.is("BAD comes ahead of FULL", x.write(0, 2, 0), InkTaken.BAD);
        x.recall(9);
        DUE.is("a white one has its room", x.write(0, 2, 1), InkTaken.FULL);
        InkTaken two = Due.told("i1,1;s0;p0;");
        DUE.is("a hand that is not told", two.write(0, 2, 1), InkTaken.BAD);
    }

    private static void copiesRecalled() {
        InkTaken x = Due.told(FOUR);
        DUE.is("no such copy", x.recall(4), InkTaken.BAD);
        DUE.is("no such copy", x.recall(-1), InkTaken.BAD);
        DUE.is("black yet", x.recall(1), 1);
        DUE.is("white", x.copyOf(1, 4), 1);
        DUE.is("no more to be recalled", x.copyOf(1, 5), 0);
        DUE.is("recalled twice", x.recall(1), InkTaken.STATE);
        DUE.is("not black", x.recall(2), 0);
        DUE.is("place", x.place(1, 1), 0);
        DUE.is("white ones", x.count(6), 2);
        DUE.is("acts", x.count(7), 2);
        DUE.is("a seal's", Due.told("i9,9;l0;w0,0,1;").recall(0), InkTaken.STATE);
    }

    /** The last DAY on which a copy of DAY 0 may be recalled, by trying. */
    private static int lastDay(String text) {
        InkTaken x = Due.told(text);
        int last = -1;
        for (int day = 0; day < 300; day++) {
            if (x.recall(0) >= 0) {
                last = day;
                x.undo();
            }
            x.days(1);
        }
        return last;
    }

    private static void limits() {
        DUE.is("a scribe's", lastDay("i10,6;s0;w0,0,1;"), 10);
        DUE.is("a poet's", lastDay("i11,6;p0;w0,0,1;"), 5);
        DUE.is("a poet's of 1", lastDay("i1,6;p0;w0,0,1;"), 0);
        DUE.is("an heir's", lastDay("i10,6;h0;w0,0,1;"), 20);
        DUE.is("a long heir's", lastDay("i99,1;h0;w0,0,1;"), 198);
        DUE.is("a seal's", lastDay("i10,6;l0;w0,0,1;"), -1);
        DUE.is("a drunk one's, till it repents", lastDay("i10,6;r0;w0,0,1;"), 5);
        DUE.is("a drunk one's of a short year", lastDay("i4,6;r0;w0,0,1;"), 4);
        InkTaken x = Due.told("i11,6;s0;p0;r0;h0;");
        DUE.is("limit", x.hand(0, 1), 11);
        DUE.is("limit", x.hand(1, 1), 5);
        DUE.is("limit", x.hand(2, 1), 11);
        DUE.is("limit", x.hand(3, 1), 22);
        DUE.is("limit", Due.told("i11,6;l0;").hand(0, 1), -1);
        InkTaken late = Due.told("i2,9;s0;");
        late.days(5);
        late.write(0, 0, 1);
        late.days(2);
        DUE.is("in its limit by its own day", late.recall(0), 0);
        late.undo();
        late.days(1);
        DUE.is("beyond it", late.recall(0), InkTaken.STATE);
    }

    private static void daysPass() {
        DUE.is("no archive comes ahead of BAD", new InkTaken().days(0), InkTaken.STATE);
        InkTaken x = Due.told(FOUR);
        DUE.is("0 days", x.days(0), InkTaken.BAD);
        DUE.is("25 days", x.days(25), InkTaken.BAD);
        DUE.is("days", x.days(5), 3);
        DUE.is("day", x.count(4), 5);
        DUE.is("acts", x.count(7), 5);
        for (int i = 0; i < 41; i++) x.days(24);
        DUE.is("day", x.count(4), 989);
        DUE.is("beyond 999", x.days(11), InkTaken.FULL);
        DUE.is("BAD comes ahead of FULL", x.days(25), InkTaken.BAD);
        DUE.is("day", x.count(4), 989);
        DUE.is("up to 999", x.days(10), 3);
        DUE.is("beyond 999", x.days(1), InkTaken.FULL);
        DUE.is("one back", x.undo(), 23);
        DUE.is("and on", x.days(1), 3);
    }

    private static void drunkCopies() {
        InkTaken x = Due.told("i10,6;r0;s0;w0,0,1;w1,1,1;a1,0,3;y3,0,2;");
        x.days(2);
        x.write(0, 0, 1);
        DUE.is("on day 5", x.days(3), 3);
        DUE.is("not yet white", x.count(6), 0);
        DUE.is("on day 6", x.days(1), 3);
        DUE.is("the first is white", x.copyOf(0, 4), 1);
        DUE.is("the later is not", x.copyOf(2, 4), 0);
        DUE.is("on day 7", x.days(1), 3);
        DUE.is("on day 8", x.days(1), 2);
        DUE.is("both are white", x.count(6), 2);
        DUE.is("a white one is not recalled", x.recall(2), InkTaken.STATE);
        DUE.is("undone", x.undo(), 8);
        DUE.is("it is not white then", x.copyOf(2, 4), 0);
        DUE.is("the first is white yet", x.copyOf(0, 4), 1);
        DUE.is("recalled", x.recall(2), 0);
        DUE.is("days at once", Due.told("i10,6;r0;w0,0,1;a1,0,3;").days(24), 0);
        DUE.is("others do not repent", Due.told("i10,1;s0;w0,0,1;a1,0,3;").days(24), 1);
    }

    private static void deedsStand() {
        InkTaken x = Due.told("i9,9;s0;w0,0,1;w1,0,1;a3,0,1;y6,0,1;a1,2,1;y32,0,1;a1,4,1;");
        DUE.is("all of 0, 1", x.deed(0, 4), 1);
        DUE.is("one of 1, 2", x.deed(1, 4), 1);
        DUE.is("on one that stands", x.deed(2, 4), 1);
        DUE.is("one of 5", x.deed(3, 4), 0);
        DUE.is("on one that does not", x.deed(4, 4), 0);
        x.recall(1);
        DUE.is("all of 0, 1", x.deed(0, 4), 0);
        DUE.is("one of 1, 2", x.deed(1, 4), 0);
        DUE.is("on one that fell", x.deed(2, 4), 0);
        x.write(2, 0, 1);
        DUE.is("one of 1, 2", x.deed(1, 4), 1);
        DUE.is("on one that stands again", x.deed(2, 4), 1);
        x.write(5, 0, 1);
        DUE.is("days", x.days(1), 0b11110);
    }

    private static void placesAreBlack() {
        DUE.is("no archive comes ahead of BAD", new InkTaken().place(6, 0), InkTaken.STATE);
        InkTaken x = Due.told(FOUR);
        DUE.is("copies of the first", x.place(0, 0), 1);
        DUE.is("copies", x.place(1, 0), 6);
        DUE.is("copies of none", x.place(5, 0), 0);
        DUE.is("black", x.place(1, 1), 1);
        DUE.is("not black", x.place(5, 1), 0);
        x.recall(1);
        DUE.is("copies, white ones too", x.place(1, 0), 6);
        DUE.is("black by one", x.place(1, 1), 1);
        DUE.is("place 6", x.place(6, 0), InkTaken.BAD);
        DUE.is("place -1", x.place(-1, 0), InkTaken.BAD);
        DUE.is("what 2", x.place(0, 2), InkTaken.BAD);
        DUE.is("what -1", x.place(0, -1), InkTaken.BAD);
    }

    private static void whatIsAskedOfThings() {
        InkTaken x = Due.told(FOUR);
        DUE.is("coin", x.hand(2, 0), 4);
        DUE.is("copies", x.hand(2, 2), 4);
        x.write(0, 2, 1);
        x.recall(4);
        DUE.is("copies, white ones too", x.hand(2, 2), 20);
        DUE.is("hand 4", x.hand(4, 0), InkTaken.BAD);
        DUE.is("hand -1", x.hand(-1, 0), InkTaken.BAD);
        DUE.is("what 3", x.hand(0, 3), InkTaken.BAD);
        DUE.is("what -1", x.hand(0, -1), InkTaken.BAD);
        DUE.is("copy 5", x.copyOf(5, 0), InkTaken.BAD);
        DUE.is("copy -1", x.copyOf(-1, 0), InkTaken.BAD);
        DUE.is("what 6", x.copyOf(0, 6), InkTaken.BAD);
        DUE.is("what -1", x.copyOf(0, -1), InkTaken.BAD);
        DUE.is("may be recalled", x.copyOf(0, 5), 1);
        x.days(11);
        DUE.is("may not", x.copyOf(0, 5), 0);
        DUE.is("but is not white", x.copyOf(0, 4), 0);
        DUE.is("an heir's may", x.copyOf(3, 5), 1);
        DUE.is("deed 3", x.deed(3, 0), InkTaken.BAD);
        DUE.is("deed -1", x.deed(-1, 0), InkTaken.BAD);
        DUE.is("what 5", x.deed(0, 5), InkTaken.BAD);
        DUE.is("what -1", x.deed(0, -1), InkTaken.BAD);
    }

    private static void actsUndone() {
        InkTaken x = Due.told(FOUR);
        DUE.is("nothing yet", x.undo(), InkTaken.STATE);
        String[] seen = new String[8];
        seen[0] = Due.seen(x);
        x.write(0, 1, 7);
        seen[1] = Due.seen(x);
        x.recall(1);
        seen[2] = Due.seen(x);
        x.days(1);
        seen[3] = Due.seen(x);
        x.recall(4);
        seen[4] = Due.seen(x);
        x.write(5, 2, 7);
        seen[5] = Due.seen(x);
        x.recall(5);
        seen[6] = Due.seen(x);
        x.days(5);
        x.write(9, 9, 9);
        x.recall(5);
        x.days(25);
        DUE.is("acts", x.count(7), 11);
        for (int left = 10; left > 6; left--) DUE.is("days undone", x.undo(), left);
        for (int left = 6; left >= 0; left--) {
            DUE.is("undo", x.undo(), left);
            DUE.is("as it was", Due.seen(x), seen[left]);
        }
        DUE.is("nothing more", x.undo(), InkTaken.STATE);
        x.write(3, 0, 7);
        DUE.is("written anew it is not white", x.copyOf(4, 4), 0);
        DUE.is("spent", x.count(5), 2);
    }

    private static void actsForgotten() {
        InkTaken x = Due.told("i99,99;s1;");
        x.write(0, 0, 1);
        x.days(23);
        DUE.is("24 acts", x.count(7), 24);
        x.days(2);
        DUE.is("24 acts still", x.count(7), 24);
        for (int left = 23; left >= 0; left--) DUE.is("undo", x.undo(), left);
        DUE.is("no more", x.undo(), InkTaken.STATE);
        DUE.is("the write and the first day stay", x.count(4), 1);
        DUE.is("the copy stays", x.count(2), 1);
        DUE.is("spent", x.count(5), 1);
        x.write(0, 0, 1);
        x.days(10);
        x.recall(0);
        x.days(12);
        x.recall(1);
        x.days(2);
        DUE.is("24 acts", x.count(7), 24);
        int[] white = {3, 3, 1, 1, 1, 1, 1, 1, 1, 1, 1, 1, 1, 1, 1, 0, 0, 0, 0, 0, 0, 0, 0, 0};
        for (int i = 0; i < 24; i++) {
            x.undo();
            DUE.is("white " + i, x.copyOf(0, 4) + 2 * x.copyOf(1, 4), white[i]);
        }
        DUE.is("the copies stay", x.count(2), 2);
        DUE.is("two days stay", x.count(4), 3);
    }

    private static void imagesKept() {
        InkTaken x = new InkTaken();
        DUE.is("image 2", x.image(2), InkTaken.BAD);
        DUE.is("image -1", x.image(-1), InkTaken.BAD);
        DUE.is("no archive", x.image(1), InkTaken.STATE);
        DUE.is("restore 2", x.restore(2), InkTaken.BAD);
        DUE.is("restore -1", x.restore(-1), InkTaken.BAD);
        DUE.is("none kept", x.restore(1), InkTaken.STATE);
        Due.read(x, FOUR);
        x.days(2);
        x.write(0, 0, 1);
        DUE.is("image", x.image(1), 1);
        DUE.is("acts stay", x.count(7), 3);
        DUE.is("the other is not kept", x.restore(0), InkTaken.STATE);
        String kept = Due.seen(x);
        x.recall(1);
        x.write(5, 3, 2);
        x.days(3);
        x.write(2, 2, 8);
        x.days(5);
        DUE.is("image", x.image(0), 1);
        String later = Due.seen(x);
        Due.read(x, "i1,1;l9;");
        x.row(2, 0, 5);
        DUE.is("restore", x.restore(1), 1);
        DUE.is("no act can be undone", x.undo(), InkTaken.STATE);
        x.drop(2);
        DUE.is("as kept", Due.seen(x), kept.replaceFirst(" 3 0 \\|", " 0 0 |"));
        x.recall(0);
        DUE.is("restore the other", x.restore(0), 1);
        DUE.is("as kept", Due.seen(x), later.replaceFirst(" 14 0 \\|", " 0 0 |"));
        DUE.is("restore again", x.restore(1), 1);
        DUE.is("an image does not change", Due.seen(x), kept.replaceFirst(" 3 0 \\|", " 0 0 |"));
        DUE.is("its year is kept", x.hand(0, 1), 10);
        DUE.is("its repentance is kept", x.ahead(4, 2), 4);
        DUE.is("none repents ahead of that", x.ahead(3, 2), 0);
        Due.read(x, "i1,1;l9;w0,0,1;w0,0,1;w0,0,1;w0,0,1;w0,0,1;");
        x.restore(1);
        DUE.is("days of copies are kept", x.copyOf(4, 3), 2);
        DUE.is("what was kept in one is not in the other", x.count(2), 5);
        x.image(0);
        x.days(1);
        x.image(1);
        x.restore(0);
        DUE.is("kept anew", x.count(4), 2);
        x.restore(1);
        DUE.is("kept anew", x.count(4), 3);
    }

    private static void counts() {
        InkTaken x = Due.told(FOUR);
        x.row(0, 0, 1);
        x.row(7, 0, 1);
        x.row(3, 0, 0);
        x.write(4, 3, 1);
        x.write(4, 2, 1);
        x.recall(0);
        x.days(7);
        x.feed('i');
        int[] due = {3, 4, 6, 3, 7, 7, 3, 10, 1};
        for (int what = 0; what < 9; what++) DUE.is("count " + what, x.count(what), due[what]);
        DUE.is("count 9", x.count(9), InkTaken.BAD);
        DUE.is("count -1", x.count(-1), InkTaken.BAD);
    }
}
