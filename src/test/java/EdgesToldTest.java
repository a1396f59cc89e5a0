/**
 * A test for each sentence about rows, texts, acts and asks that names an edge, in the document's order:
 * too small, too large, empty, full, wrapped around, refused. Bounds of numbers stand in BoundsTest.
 */
public final class EdgesToldTest {
    private static final Due DUE = new Due();
    private static final int LEAST = Integer.MIN_VALUE, MOST = Integer.MAX_VALUE;
    /** 140 bytes: a tape that is full, and is an ARCHIVE with all that there is room for. */
    private static final String FULL_TAPE = "i99,99;s00;s00;s00;s00;w00,0,1;w00,0,1;" + "w0,0,1;".repeat(8) + "a10,0,10;".repeat(5);

    public static void main(String[] args) {
        refusalsInTheirOrder();
        rowsMissingAtFirst();
        rowsLaidAnew();
        lanesWrapAround();
        copiesAtBothEnds();
        copiesWithinOneRow();
        placesThatWrapAround();
        rowsDropped();
        tapeFull();
        tapeEmpty();
        numbersOfTexts();
        runsOfFigures();
        roomOfTexts();
        firstFaultOfSeveral();
        endsOfTexts();
        faultsKept();
        archiveInPlaceOfOne();
        limitsToTheDay();
        repentanceToTheDay();
        lastDay();
        placesWithoutCopies();
        deedsAtTheirEdge();
        deedsOnOneAnother();
        copiesFull();
        onlyCopyUndone();
        actsFull();
        actsNone();
        daysAreActsEach();
        imagesEmpty();
        imagesAlone();
        statusOfWhat();
        asksAndTheirTrace();
        DUE.end();
    }

    private static void is(String call, int got, int want) {
        DUE.is(call, got, want);
    }

    /** "the first of these that fits, but as told: BAD, STATE, FULL, then FINDINGS, of several the first in time" */
    private static void refusalsInTheirOrder() {
        DUE.refused("row: BAD ROW ahead of SIZE", Due::inUse, x -> x.row(8, 0, -1), InkTaken.BAD);
        DUE.refused("row: BAD LANE ahead of SIZE", Due::inUse, x -> x.row(0, 3, -1), InkTaken.BAD);
        DUE.refused("set: NULL ahead of PLACE", Due::inUse, x -> x.set(5, -1, 0), Due.NULL);
        DUE.refused("copy: BAD ahead of NULL", Due::inUse, x -> x.copy(5, 0, 8, 0, 0), InkTaken.BAD);
        DUE.refused("copy: NULL (from) ahead of PLACE", Due::inUse, x -> x.copy(5, -1, 0, 0, 0), Due.NULL);
        DUE.refused("copy: NULL (to) ahead of PLACE", Due::inUse, x -> x.copy(0, -1, 5, 0, 0), Due.NULL);
        DUE.refused("copy: STORE ahead of PLACE", Due::inUse, x -> x.copy(0, -1, 2, 9, -1), Due.STORE);
        DUE.refused("copy: STORE, though no ITEM comes", Due::inUse, x -> x.copy(0, 0, 2, 0, 0), Due.STORE);
        DUE.refused("drop: NULL", Due::inUse, x -> x.drop(5), Due.NULL);
        DUE.refused("forged: BAD ahead of PLACE", Due::inUse, x -> x.forged(8, -1), InkTaken.BAD);
        DUE.refused("forged: NULL ahead of PLACE", Due::inUse, x -> x.forged(5, -1), Due.NULL);
        DUE.refused("feed: BAD ahead of FULL", () -> fed(FULL_TAPE), x -> x.feed(256), InkTaken.BAD);
        DUE.refused("feed: FULL", () -> fed(FULL_TAPE), x -> x.feed('a'), InkTaken.FULL);
        DUE.refused("write: BAD ahead of FULL", EdgesToldTest::tenCopies, x -> x.write(0, 0, 10), InkTaken.BAD);
        DUE.refused("write: FULL", EdgesToldTest::tenCopies, x -> x.write(0, 0, 9), InkTaken.FULL);
        DUE.refused("recall: STATE (white)", Due::inUse, x -> x.recall(1), InkTaken.STATE);
        DUE.refused("recall: STATE (a seal's)", Due::inUse, x -> x.recall(3), InkTaken.STATE);
        DUE.refused("restore: BAD ahead of STATE", InkTaken::new, x -> x.restore(2), InkTaken.BAD);
        DUE.refused("restore: STATE", Due::inUse, x -> x.restore(1), InkTaken.STATE);
        DUE.refused("image: BAD ahead of STATE", InkTaken::new, x -> x.image(2), InkTaken.BAD);
        DUE.refused("image: STATE", InkTaken::new, x -> x.image(1), InkTaken.STATE);
        DUE.refused("undo: STATE", () -> Due.told("i1,1;s0;"), InkTaken::undo, InkTaken.STATE);
        DUE.refused("as: KIND", Due::inUse, x -> x.as(0, 2), Due.KIND);
        DUE.refused("as: BAD ahead of KIND", Due::inUse, x -> x.as(4, 2), InkTaken.BAD);
        stateAheadOfBad();
    }

    /** "STATE: no ARCHIVE (ahead of BAD)" */
    private static void stateAheadOfBad() {
        int state = InkTaken.STATE;
        for (int number : new int[] {1, LEAST, MOST}) {
            DUE.refused("days " + number, InkTaken::new, x -> x.days(number), state);
            DUE.refused("place " + number, InkTaken::new, x -> x.place(number, number), state);
            DUE.refused("falls " + number, InkTaken::new, x -> x.falls(number, number), state);
            DUE.refused("pair " + number, InkTaken::new, x -> x.pair(number), state);
            DUE.refused("ahead " + number, InkTaken::new, x -> x.ahead(number, number), state);
            DUE.refused("order " + number, InkTaken::new, x -> x.order(number), state);
            DUE.refused("blanks " + number, InkTaken::new, x -> x.blanks(number, number), state);
            DUE.refused("forged " + number, InkTaken::new, x -> x.forged(number, number), state);
            DUE.refused("years " + number, InkTaken::new, x -> x.years(number, number, number), state);
        }
    }

    private static InkTaken fed(String text) {
        InkTaken x = new InkTaken();
        Due.feed(x, text);
        return x;
    }

    private static InkTaken tenCopies() {
        return Due.told("i9,9;s3;" + "w0,0,1;".repeat(10));
    }

    /** "ROWS 0 .. 7 are missing (at first)" */
    private static void rowsMissingAtFirst() {
        for (int row = 0; row < 8; row++) {
            InkTaken x = new InkTaken();
            is("set of a missing row", x.set(row, 0, 1), Due.NULL);
            is("copy of a missing row", x.copy(row, 0, row, 0, 0), Due.NULL);
            is("drop of a missing row", x.drop(row), Due.NULL);
            is("rows", x.count(0), 0);
            is("row", x.row(row, 0, 1), 1);
            is("rows", x.count(0), 1);
        }
    }

    /** "0 to 40 ITEMS, 0 at first", "in place of what is there" */
    private static void rowsLaidAnew() {
        InkTaken x = Due.told("i9,9;s0;w0,0,1;");
        is("an empty row", x.row(0, 2, 0), 0);
        is("it has no ITEM", x.set(0, 0, 1), Due.PLACE);
        is("it is there", x.count(0), 1);
        is("the longest row", x.row(0, 2, 40), 40);
        is("its last ITEM", x.set(0, 39, 77), 77);
        is("it is no DAY that can be", x.forged(0, 39), 1);
        is("laid anew", x.row(0, 2, 40), 40);
        for (int i = 0; i < 40; i++) is("ITEMS are 0 at first", x.forged(0, i), 0);
        x.set(0, 1, 77);
        is("a shorter one", x.row(0, 2, 1), 1);
        is("a longer one", x.row(0, 2, 2), 2);
        is("0 at first", x.forged(0, 1), 0);
        is("of another lane", x.row(0, 0, 2), 2);
        is("its bits", x.set(0, 0, 128), -128);
        is("one row", x.count(0), 1);
        is("the length of the latest", x.drop(0), 2);
    }

    /** "ITEM i becomes v, its lowest bits, as many as the LANE has: what it is then" */
    private static void lanesWrapAround() {
        int[] told = {0, 1, -1, 127, 128, -128, -129, 255, 256, 32767, 32768, -32768, -32769, 65535, 65536, MOST, LEAST};
        InkTaken x = new InkTaken();
        for (int lane = 0; lane < 3; lane++) x.row(lane, lane, 40);
        for (int i = 0; i < told.length; i++) {
            is("byte of " + told[i], x.set(0, i, told[i]), (byte) told[i]);
            is("short of " + told[i], x.set(1, i, told[i]), (short) told[i]);
            is("int of " + told[i], x.set(2, i, told[i]), told[i]);
        }
        InkTaken seal = Due.told("i9,9;l0;w0,0,1;");
        seal.row(0, 0, 1);
        is("255 as a byte", seal.set(0, 0, 255), -1);
        is("is kept as -1: nothing is said", seal.forged(0, 0), 0);
        seal.row(0, 1, 1);
        is("255 as a short", seal.set(0, 0, 255), 255);
        is("is kept as 255", seal.forged(0, 0), 1);
    }

    /** A ROW of ints, laid on an object of one seal's COPY: forged tells which ITEMS are -1. */
    private static InkTaken laid(int... items) {
        InkTaken x = Due.told("i9,9;l0;w0,0,1;");
        Due.lay(x, 0, items);
        return x;
    }

    private static void holds(String call, InkTaken x, int row, String due) {
        StringBuilder got = new StringBuilder();
        for (int i = 0; i < due.length(); i++) got.append(x.forged(row, i) == 0 ? '-' : 'x');
        DUE.is(call, got.toString(), due);
        is(call + ": its end", x.forged(row, due.length()), Due.PLACE);
    }

    /** "PLACE (i, j, n below 0, or beyond an end)": up to the ends is fine */
    private static void copiesAtBothEnds() {
        InkTaken x = laid(5, -1, 5);
        Due.lay(x, 1, -1, -1, 5, 5);
        is("no ITEM, at both ends", x.copy(0, 3, 1, 4, 0), 0);
        holds("nothing came", x, 1, "--xx");
        is("one from the end to the beginning", x.copy(0, 2, 1, 0, 1), 1);
        holds("it came", x, 1, "x-xx");
        is("the whole row to the end", x.copy(0, 0, 1, 1, 3), 3);
        holds("it came", x, 1, "xx-x");
        is("one beyond a's end", x.copy(0, 1, 1, 0, 3), Due.PLACE);
        is("one beyond b's end", x.copy(0, 0, 1, 2, 3), Due.PLACE);
        is("none, beyond a's end", x.copy(0, 4, 1, 0, 0), Due.PLACE);
        is("none, beyond b's end", x.copy(0, 0, 1, 5, 0), Due.PLACE);
        is("n below 0, at the ends", x.copy(0, 3, 1, 4, -1), Due.PLACE);
        holds("nothing came", x, 1, "xx-x");
        holds("a stays as it was", x, 0, "x-x");
        x.row(2, 2, 0);
        is("empty rows", x.copy(2, 0, 2, 0, 0), 0);
        is("one of an empty row", x.copy(2, 0, 1, 0, 1), Due.PLACE);
        is("one to an empty row", x.copy(1, 0, 2, 0, 1), Due.PLACE);
    }

    /** "n ITEMS of a from i on come to b from j on, as they were ahead" */
    private static void copiesWithinOneRow() {
        InkTaken up = laid(5, -1, -1, 5, -1);
        is("up, over itself", up.copy(0, 0, 0, 1, 4), 4);
        holds("as they were ahead", up, 0, "xx--x");
        InkTaken down = laid(5, -1, -1, 5, -1);
        is("down, over itself", down.copy(0, 1, 0, 0, 4), 4);
        holds("as they were ahead", down, 0, "--x--");
        InkTaken still = laid(5, -1, -1, 5, -1);
        is("to where it is", still.copy(0, 0, 0, 0, 5), 5);
        holds("as they were ahead", still, 0, "x--x-");
    }

    /** "no such place of a ROW": sums that wrap around are none */
    private static void placesThatWrapAround() {
        int[][] wrong = {{MOST, 0, 1}, {0, MOST, 1}, {MOST, MOST, MOST}, {1, 0, MOST}, {0, 1, MOST}, {LEAST, 0, LEAST},
            {0, LEAST, LEAST}, {LEAST, LEAST, 0}, {MOST, 0, 2}, {0, MOST, 2}, {-1, 0, 0}, {0, -1, 0}, {0, 0, -1}};
        for (int[] one : wrong) {
            String call = "copy " + one[0] + " " + one[1] + " " + one[2];
            DUE.refused(call, Due::inUse, x -> x.copy(2, one[0], 2, one[1], one[2]), Due.PLACE);
        }
        for (int i : new int[] {MOST, MOST - 1, MOST - 5, LEAST, LEAST + 7, -1}) {
            DUE.refused("forged " + i, Due::inUse, x -> x.forged(2, i), Due.PLACE);
            DUE.refused("set " + i, Due::inUse, x -> x.set(2, i, 1), Due.PLACE);
        }
    }

    /** "A ROW is missing from now on: how many ITEMS it had" */
    private static void rowsDropped() {
        InkTaken x = new InkTaken();
        x.row(0, 0, 40);
        x.row(7, 0, 0);
        is("the longest", x.drop(0), 40);
        is("rows", x.count(0), 1);
        is("missing", x.set(0, 0, 1), Due.NULL);
        is("missing", x.copy(0, 0, 7, 0, 0), Due.NULL);
        is("dropped twice", x.drop(0), Due.NULL);
        is("an empty one", x.drop(7), 0);
        is("rows", x.count(0), 0);
        is("laid again", x.row(0, 1, 3), 3);
        is("it had", x.drop(0), 3);
    }

    /** "THE TAPE has at most 140 bytes" */
    private static void tapeFull() {
        InkTaken x = fed(FULL_TAPE.substring(0, 139));
        is("the 140th", x.feed(';'), 140);
        is("the 141st", x.feed(';'), InkTaken.FULL);
        is("bytes", x.count(8), 140);
        is("a full tape is read", x.archive(), 4);
        is("copies", x.count(2), 10);
        is("deeds", x.count(3), 5);
        is("the tape, empty then", x.count(8), 0);
        is("there is room", x.feed(0), 1);
        String longer = FULL_TAPE.replaceFirst("w0,", "w00,");
        is("of 141 bytes the last lacks", Due.read(new InkTaken(), longer), -1000240);
    }

    /** "The tape, empty then, is read", "the end: how many bytes there are" */
    private static void tapeEmpty() {
        InkTaken x = new InkTaken();
        is("an empty tape", x.archive(), -1000100);
        is("its fault", x.fault(), 1);
        Due.read(x, "i9,9;s0;");
        is("read, it is empty", x.archive(), -1000100);
        is("the archive stays", x.count(1), 1);
        is("a fault empties it", Due.read(x, "i9,9;s0;x"), -1000108);
        is("bytes", x.count(8), 0);
        is("an archive that was ahead is not read again", Due.read(x, "p0;"), -1000100);
    }

    /** A text whose one NUMBER is told, what is ahead of it, and the least and most of it. */
    private static void numberOf(String ahead, String behind, int least, int most) {
        for (int number = 0; number < 100; number++) {
            for (String told : new String[] {"" + number, (number < 10 ? "0" : "") + number}) {
                InkTaken x = new InkTaken();
                int hands = ahead.contains("p1;") ? 3 : 1;
                boolean fine = number >= least && number <= most;
                is(ahead + told + behind, Due.read(x, ahead + told + behind), fine ? hands : -1000100 - ahead.length());
                is("its fault", x.fault(), fine ? 0 : 2);
            }
        }
    }

    /** "2 a NUMBER that is not as told" */
    private static void numbersOfTexts() {
        numberOf("i", ",1;s0;", 1, 99);
        numberOf("i1,", ";s0;", 1, 99);
        numberOf("i1,1;s", ";", 0, 9);
        numberOf("i1,1;s0;w", ",0,1;", 0, 5);
        numberOf("i1,1;s0;w0,", ",1;", 0, 0);
        numberOf("i1,1;s0;p1;l2;w0,", ",1;", 0, 2);
        numberOf("i1,1;s0;w0,0,", ";", 1, 9);
        for (String sort : new String[] {"a", "y"}) {
            numberOf("i1,1;s0;" + sort, ",0,0;", 1, 63);
            numberOf("i1,1;s0;" + sort + "1,", ",0;", 0, 0);
            numberOf("i1,1;s0;a1,0,0;y1,0,0;" + sort + "1,", ",0;", 0, 2);
            numberOf("i1,1;s0;" + sort + "1,0,", ";", 0, 20);
        }
    }

    private static void faulty(String text, int place, int number) {
        InkTaken x = new InkTaken();
        is(text, Due.read(x, text), -1000100 - place);
        is("fault of " + text, x.fault(), number);
    }

    /** "NUMBERS (figures, 2 at most)", "a run of three figures, at its first" */
    private static void runsOfFigures() {
        for (String run : new String[] {"001", "100", "000", "1000", "0000000001"}) {
            faulty("i" + run + ",1;s0;", 1, 1);
            faulty("i1," + run + ";s0;", 3, 1);
            faulty("i1,1;s" + run + ";", 6, 1);
            faulty("i1,1;s0;w0,0," + run + ";", 13, 1);
            faulty("i1,1;s0;a1,0," + run + ";", 13, 1);
            faulty("i1,1;s0;" + run, 8, 1);
            faulty(run, 0, 1);
        }
    }

    /** "3 a hand, a copy, a deed more than there is room for (its letter)" */
    private static void roomOfTexts() {
        String law = "i9,9;";
        for (char sort : "sprhl".toCharArray()) {
            faulty(law + "s0;p0;r0;h0;" + sort + "0;", 17, 3);
            faulty(law + "s0;p0;r0;h0;" + sort, 17, 3);
            is("four hands", Due.read(new InkTaken(), law + "s0;p0;r0;" + sort + "0;"), 4);
        }
        String copies = law + "s0;" + "w0,0,1;".repeat(10);
        is("ten copies", Due.read(new InkTaken(), copies), 1);
        faulty(copies + "w0,0,1;", 78, 3);
        String deeds = law + "s0;" + "a1,0,0;y1,0,0;".repeat(2);
        for (char sort : "ay".toCharArray()) {
            is("five deeds", Due.read(new InkTaken(), deeds + "a1,0,0;"), 1);
            faulty(deeds + "a1,0,0;" + sort + "1,0,0;", 43, 3);
        }
        // a letter that cannot stand there has fault 1, the lesser, whatever room there is
        faulty(law + "s0;p0;r0;h0;w0,0,1;s0;", 24, 1);
        faulty(copies + "a1,0,0;w0,0,1;", 85, 1);
        // all is full, and all of it is read
        is("all is full", Due.read(new InkTaken(), FULL_TAPE), 4);
    }

    /** "the first TOKEN that has one (its first byte), of one TOKEN the least" */
    private static void firstFaultOfSeveral() {
        faulty("i0,0;", 1, 2);
        faulty("i1,0,", 3, 2);
        faulty("i1,1,0", 4, 1);
        faulty("i99,99;s99;w9", 8, 2);
        faulty("i1,1;s0;w9,9,0;", 9, 2);
        faulty("i1,1;s0;w5,1,0;", 11, 2);
        faulty("i1,1;s0;a64,9,99;", 9, 2);
        faulty("i1,1;s0;p0;r0;h0;l99;", 17, 3);
        faulty("i1,1;s10;p0;r0;h0;l0;", 6, 2);
        faulty("i1,1;s0;#w9", 8, 1);
        faulty("i1,1;s0;w0,0,10x", 13, 2);
        faulty("i1,1;s0;w0,0,1x", 14, 1);
    }

    /** "the end: how many bytes there are": a text that ends too soon, byte for byte */
    private static void endsOfTexts() {
        String whole = "i10,20;l3;h09;w1,01,4;y62,0,17;a2,1,20;";
        for (int end = 0; end < whole.length(); end++) {
            boolean rests = end == 10 || end == 14 || end == 22 || end == 31;
            int hands = end == 10 ? 1 : 2;
            InkTaken x = new InkTaken();
            is("cut at " + end, Due.read(x, whole.substring(0, end)), rests ? hands : -1000100 - end);
            is("its fault", x.fault(), rests ? 0 : 1);
        }
    }

    /** "The number of the latest FAULT; 0 before one", "-1000100 less the place of a FAULT: all stays" */
    private static void faultsKept() {
        InkTaken x = new InkTaken();
        is("before one", x.fault(), 0);
        Due.read(x, "i1,1;s0;");
        is("an archive is none", x.fault(), 0);
        Due.read(x, "i0");
        is("a number", x.fault(), 2);
        Due.read(x, "i1,1;s0;s0;s0;s0;s0;");
        is("room", x.fault(), 3);
        Due.read(x, "");
        is("the end", x.fault(), 1);
        Due.read(x, "i1,1;s0;");
        is("the latest stays", x.fault(), 1);
        InkTaken kept = Due.inUse();
        is("a fault behind the byte that is there", Due.read(kept, "9,9;l1;w9"), -1000109);
        is("hands stay", kept.count(1), 4);
        is("copies stay", kept.count(2), 6);
        is("the day stays", kept.count(4), 3);
        is("acts stay", kept.count(7), 6);
        is("a place of it stays", kept.copyOf(5, 0), 5);
    }

    /** "DAY 0, all copies are of that DAY, none is white; no ACT can be undone" */
    private static void archiveInPlaceOfOne() {
        InkTaken x = Due.told("i9,9;s7;");
        x.days(5);
        for (int k = 0; k < 10; k++) x.write(5, 0, 9);
        x.recall(0);
        x.recall(9);
        is("spent", x.count(5), 70);
        is("archive", Due.read(x, "i3,3;s1;p2;w0,1,1;w1,1,2;w2,0,3;a1,0,0;"), 2);
        int[] counts = {0, 2, 3, 1, 0, 0, 0, 0, 0};
        for (int what = 0; what < 9; what++) is("count " + what, x.count(what), counts[what]);
        for (int copy = 0; copy < 3; copy++) {
            is("of that DAY", x.copyOf(copy, 3), 0);
            is("not white", x.copyOf(copy, 4), 0);
            is("may be recalled", x.copyOf(copy, 5), 1);
        }
        is("no ACT", x.undo(), InkTaken.STATE);
        is("no copy of before", x.copyOf(3, 0), InkTaken.BAD);
        is("written now", x.write(3, 0, 4), 3);
        is("of that DAY", x.copyOf(3, 3), 0);
        is("it is not white", x.copyOf(3, 4), 0);
        is("fewer things", Due.read(x, "i1,1;l0;"), 1);
        is("copies", x.count(2), 0);
        is("deeds", x.count(3), 0);
        is("no such hand", x.kind(1), InkTaken.BAD);
        is("no such deed", x.deed(0, 0), InkTaken.BAD);
    }

    /** On its LIMIT's last DAY a COPY may be recalled, on the next it may not: by days, one by one. */
    private static void limitDue(String sort, int year, int limit) {
        InkTaken x = Due.told("i" + year + ",99;" + sort + "0;");
        is("limit of " + sort + year, x.hand(0, 1), limit);
        x.days(3);
        x.write(0, 0, 1);
        for (int rest = limit; rest > 0; rest -= Math.min(rest, 24)) x.days(Math.min(rest, 24));
        is("may, on the last day, of " + sort + year, x.copyOf(0, 5), limit >= 0 ? 1 : 0);
        is("recalled on it", x.recall(0), limit >= 0 ? 0 : InkTaken.STATE);
        if (limit >= 0) x.undo();
        x.days(1);
        is("may not, on the next, of " + sort + year, x.copyOf(0, 5), 0);
        is("not recalled on it", x.recall(0), InkTaken.STATE);
        is("it is not white", x.copyOf(0, 4), 0);
    }

    /** "if it is no more DAYS old than its LIMIT" */
    private static void limitsToTheDay() {
        for (int year : new int[] {1, 2, 3, 10, 98, 99}) {
            limitDue("s", year, year);
            limitDue("p", year, year / 2);
            limitDue("h", year, 2 * year);
            limitDue("l", year, -1);
            if (year < 98) limitDue("r", year, year);
        }
        is("a drunk one's limit", Due.told("i99,1;r0;").hand(0, 1), 99);
    }

    /** "Behind a DAY all COPIES of drunk ones that are REPENT DAYS old, or older, are white." */
    private static void repentanceToTheDay() {
        for (int repent : new int[] {1, 2, 24, 98, 99}) {
            InkTaken x = Due.told("i99," + repent + ";s0;r0;w0,1,1;w1,0,1;a1,0,1;a2,0,1;");
            for (int rest = repent - 1; rest > 0; rest -= Math.min(rest, 24)) x.days(Math.min(rest, 24));
            is("not yet white", x.copyOf(0, 4), 0);
            is("it may be recalled", x.copyOf(0, 5), 1);
            x.write(0, 1, 1);
            is("behind the day", x.days(1), repent == 1 ? 2 : 3);
            is("white", x.copyOf(0, 4), 1);
            is("it may no more", x.recall(0), InkTaken.STATE);
            is("the later one", x.copyOf(2, 4), repent == 1 ? 1 : 0);
            is("a scribe's stays", x.copyOf(1, 4), 0);
            is("undone", x.undo(), x.count(7));
            is("not white ahead of it", x.copyOf(0, 4), 0);
        }
        InkTaken recalled = Due.told("i9,2;r0;w0,0,1;");
        recalled.recall(0);
        recalled.days(3);
        for (int k = 0; k < 3; k++) recalled.undo();
        is("recalled ahead of it, white behind its days undone", recalled.copyOf(0, 4), 1);
    }

    /** "FULL: more than DAY 999 would be" */
    private static void lastDay() {
        InkTaken x = Due.told("i9,9;s0;w0,0,1;a1,0,1;");
        for (int k = 0; k < 40; k++) x.days(24);
        is("15 more", x.days(15), 1);
        is("day 975", x.count(4), 975);
        x.days(1);
        is("24 more are too many", x.days(24), InkTaken.FULL);
        is("day 976", x.count(4), 976);
        is("acts stay", x.count(7), 24);
        is("23 more", x.days(23), 1);
        is("day 999", x.count(4), 999);
        is("one more", x.days(1), InkTaken.FULL);
        is("BAD ahead of FULL", x.days(0), InkTaken.BAD);
        is("BAD ahead of FULL", x.days(MOST), InkTaken.BAD);
        is("a copy of day 999", x.write(0, 0, 1), 1);
        is("its day", x.copyOf(1, 3), 999);
        x.undo();
        x.undo();
        is("a day undone", x.count(4), 998);
        is("comes again", x.days(1), 1);
    }

    /** "A PLACE is BLACK, if one COPY of it at least is not white." */
    private static void placesWithoutCopies() {
        InkTaken x = Due.told("i9,9;s0;w5,0,1;w5,0,1;w5,0,1;");
        is("no copy", x.place(0, 0), 0);
        is("is not black", x.place(0, 1), 0);
        is("all its copies", x.place(5, 0), 7);
        is("first recalled", x.recall(2), 1);
        is("second recalled", x.recall(0), 1);
        is("one is enough", x.place(5, 1), 1);
        is("the last recalled", x.recall(1), 0);
        is("all white", x.place(5, 1), 0);
        is("white ones are its copies", x.place(5, 0), 7);
        is("and their hand's", x.hand(0, 2), 7);
        is("white", x.count(6), 3);
    }

    /** "if all PLACES of its SET are BLACK", "if one of these at least is" */
    private static void deedsAtTheirEdge() {
        String all = "i9,9;s0;w0,0,1;w1,0,1;w2,0,1;w3,0,1;w4,0,1;w5,0,1;";
        InkTaken x = Due.told(all + "a63,0,1;y63,0,1;a32,0,1;y1,0,1;");
        is("all", x.deed(0, 4), 1);
        x.recall(5);
        is("all but one", x.deed(0, 4), 0);
        is("the last place alone", x.deed(2, 4), 0);
        for (int copy = 0; copy < 4; copy++) x.recall(copy);
        is("one", x.deed(1, 4), 1);
        is("not the first place", x.deed(3, 4), 0);
        x.recall(4);
        is("none", x.deed(1, 4), 0);
        is("no copies", Due.told("i9,9;s0;a63,0,1;y63,0,1;").days(1), 0);
    }

    /** "both only if the DEED it is ON (if any) STANDS" */
    private static void deedsOnOneAnother() {
        InkTaken x = Due.told("i9,9;s0;w0,0,1;w1,0,1;a1,0,1;y2,1,1;a2,2,1;y2,3,1;a2,4,1;");
        for (int deed = 0; deed < 5; deed++) {
            is("stands", x.deed(deed, 4), 1);
            is("is on", x.deed(deed, 2), deed == 0 ? InkTaken.NONE : deed - 1);
        }
        x.recall(0);
        for (int deed = 0; deed < 5; deed++) is("fell with the first", x.deed(deed, 4), 0);
        x.undo();
        x.recall(1);
        is("the first stands alone", x.ahead(0, 1), 1);
    }

    /** "A COPY is written: its number." "FULL: 10." */
    private static void copiesFull() {
        InkTaken x = Due.told("i9,9;s3;p4;");
        for (int copy = 0; copy < 10; copy++) is("its number", x.write(copy % 6, copy % 2, 9), copy);
        is("the eleventh", x.write(0, 0, 1), InkTaken.FULL);
        is("spent", x.count(5), 35);
        is("acts", x.count(7), 10);
        x.recall(3);
        is("white ones have their room", x.write(0, 0, 1), InkTaken.FULL);
        x.undo();
        is("a write undone", x.undo(), 9);
        is("its coin comes back", x.count(5), 31);
        is("there is room", x.write(1, 0, 2), 9);
        is("its place", x.copyOf(9, 0), 1);
        is("spent", x.count(5), 34);
    }

    /** "each can be undone": the only COPY too, of which nothing is left then */
    private static void onlyCopyUndone() {
        InkTaken x = Due.told("i9,9;s3;a1,0,1;");
        is("written", x.write(0, 0, 1), 0);
        is("undone", x.undo(), 0);
        is("copies", x.count(2), 0);
        is("spent", x.count(5), 0);
        is("there is none", x.copyOf(0, 0), InkTaken.BAD);
        is("its hand has none", x.hand(0, 2), 0);
        is("its place is not black", x.place(0, 1), 0);
        is("nor stands the deed", x.deed(0, 4), 0);
    }

    /** "24 at most are kept, of more the oldest is forgotten" */
    private static void actsFull() {
        InkTaken x = Due.told("i99,99;s1;");
        x.write(0, 0, 1);
        is("recall", x.recall(0), 0);
        x.days(22);
        is("24 are kept", x.count(7), 24);
        x.days(1);
        is("of 25 too", x.count(7), 24);
        for (int left = 23; left >= 0; left--) is("undo", x.undo(), left);
        is("the oldest, the write, is forgotten", x.count(2), 1);
        is("the next, the recall, is undone", x.count(6), 0);
        is("none is left", x.undo(), InkTaken.STATE);
        is("its coin is spent", x.count(5), 1);
        InkTaken many = Due.told("i99,99;s1;");
        for (int k = 0; k < 3; k++) many.days(24);
        is("24 of 72", many.count(7), 24);
        for (int k = 0; k < 24; k++) many.undo();
        is("48 stay", many.count(4), 48);
        is("no more", many.undo(), InkTaken.STATE);
    }

    /** "STATE: none." */
    private static void actsNone() {
        is("a new object", new InkTaken().undo(), InkTaken.STATE);
        InkTaken x = Due.told("i9,9;s0;w0,0,1;");
        is("an archive", x.undo(), InkTaken.STATE);
        x.image(0);
        is("an image is no act", x.undo(), InkTaken.STATE);
        x.recall(0);
        is("undone", x.undo(), 0);
        is("an undo is no act", x.undo(), InkTaken.STATE);
        x.recall(0);
        x.restore(0);
        is("behind restore none", x.undo(), InkTaken.STATE);
        x.recall(1);
        x.write(0, 0, 0);
        x.days(0);
        is("what is refused is no act", x.undo(), InkTaken.STATE);
        x.days(2);
        Due.read(x, "i");
        is("a fault leaves them", x.undo(), 1);
    }

    /** "n DAYS (1 to 24), an ACT each: DEEDS that STAND" */
    private static void daysAreActsEach() {
        InkTaken x = Due.told("i9,3;r0;s0;w0,0,1;w1,1,1;a1,0,1;a2,0,1;");
        is("two", x.days(2), 3);
        is("24", x.days(24), 2);
        is("24 acts", x.count(7), 24);
        is("day", x.count(4), 26);
        for (int left = 23; left > 0; left--) is("one undone", x.undo(), left);
        is("day", x.count(4), 3);
        is("white", x.copyOf(0, 4), 1);
        is("the last", x.undo(), 0);
        is("not white", x.copyOf(0, 4), 0);
        is("day", x.count(4), 2);
    }

    /** "STATE: none was kept." "STATE: no ARCHIVE." */
    private static void imagesEmpty() {
        for (int k = 0; k < 2; k++) {
            InkTaken x = new InkTaken();
            is("none was kept", x.restore(k), InkTaken.STATE);
            is("no archive", x.image(k), InkTaken.STATE);
            is("nor was it then", x.restore(k), InkTaken.STATE);
            Due.read(x, "i9,9;s0;");
            is("an archive is no image", x.restore(k), InkTaken.STATE);
            is("kept", x.image(k), 1);
            is("the other was not", x.restore(1 - k), InkTaken.STATE);
            is("restored", x.restore(k), 1);
            is("restored again", x.restore(k), 1);
        }
    }

    /** "The ARCHIVE is as an IMAGE kept it (no ACT can be undone then)": and nothing else is */
    private static void imagesAlone() {
        InkTaken x = Due.told("i9,9;s2;");
        x.days(4);
        x.write(0, 0, 1);
        x.image(1);
        is("acts stay", x.count(7), 5);
        x.undo();
        x.days(1);
        x.write(1, 0, 2);
        x.write(1, 0, 2);
        x.row(3, 0, 7);
        x.drop(4);
        Due.read(x, "i0");
        x.feed('i');
        x.ask(0, 1);
        is("restored", x.restore(1), 1);
        is("the copy", x.copyOf(0, 0), 0);
        is("its day", x.copyOf(0, 3), 4);
        int[] counts = {1, 1, 1, 0, 4, 2, 0, 0, 1};
        for (int what = 0; what < 9; what++) is("count " + what, x.count(what), counts[what]);
        is("fault", x.fault(), 2);
        is("status", x.status(), 1);
        is("trace", x.trace(0), 21);
        x.write(2, 0, 3);
        x.recall(0);
        is("restored again", x.restore(1), 1);
        is("copies", x.count(2), 1);
        is("white", x.count(6), 0);
        is("spent", x.count(5), 2);
    }

    /** "Of the latest call with a ROW, or as(), that was not BAD, STATE, FULL" */
    private static void statusOfWhat() {
        is("there was none", new InkTaken().status(), 0);
        for (int call = 0; call < 6; call++) {
            InkTaken x = Due.inUse();
            is("a finding", x.status(), 2);
            is("fine", withoutFinding(x, call), 0);
        }
        InkTaken x = Due.inUse();
        x.feed(300);
        x.write(0, 0, 1);
        x.recall(3);
        x.days(1);
        x.undo();
        x.archive();
        x.ask(0, 0);
        x.image(1);
        x.restore(1);
        x.kind(9);
        is("other calls leave it", x.status(), 2);
        x.as(0, 2);
        is("KIND", x.status(), 3);
        x.copy(0, 0, 2, 0, 1);
        is("STORE", x.status(), 5);
        x.row(0, 0, LEAST);
        is("SIZE", x.status(), 4);
        x.drop(6);
        is("NULL", x.status(), 1);
    }

    private static int withoutFinding(InkTaken x, int call) {
        switch (call) {
            case 0: x.row(6, 0, 0); break;
            case 1: x.set(2, 0, 0); break;
            case 2: x.copy(1, 0, 1, 0, 0); break;
            case 3: x.forged(2, 0); break;
            case 4: x.drop(1); break;
            default: x.as(3, 0); break;
        }
        return x.status();
    }

    /** "THE TRACE is empty ahead of it", "Number i of THE TRACE; NONE" */
    private static void asksAndTheirTrace() {
        InkTaken x = Due.told("i9,9;p9;r0;h0;l9;w0,0,1;");
        is("nothing asked", x.trace(0), InkTaken.NONE);
        is("a poet's size", x.ask(0, 0), -11);
        int[] longest = {12, 11, 10, 24, 21, 20};
        for (int i = 0; i < 6; i++) is("trace " + i, x.trace(i), longest[i]);
        is("beyond it", x.trace(6), InkTaken.NONE);
        is("below 0", x.trace(-1), InkTaken.NONE);
        is("the 17th", x.trace(16), InkTaken.NONE);
        is("a shorter one", x.ask(2, 0), -100);
        is("the former is gone", x.trace(2), InkTaken.NONE);
        is("its end", x.trace(1), 10);
        is("what a drunk one without copies is", x.ask(1, 1), 1 - 1000);
        is("a seal by an heir's mark, by its own size", x.ask(3, 1), 3 - 2 * (9 - 100));
        is("which begins within it", x.trace(2), 14);
        x.recall(0);
        is("a poet without black copies", x.ask(0, 1), 0);
    }
}
