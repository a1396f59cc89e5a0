/** Promises 6 to 8: the tape, archives that are read, faults. */
public final class TextsTest {
    private static final Due DUE = new Due();
    private static final String LAW = "i10,6;";

    public static void main(String[] args) {
        tapeFed();
        archivesRead();
        faultsOfTokens();
        faultsOfNumbers();
        faultsOfRoom();
        faultsOfTheEnd();
        allStaysAtFault();
        aNewOneStandsInPlace();
        DUE.end();
    }

    private static void tapeFed() {
        InkTaken x = new InkTaken();
        DUE.is("feed 0", x.feed(0), 1);
        DUE.is("feed 255", x.feed(255), 2);
        DUE.is("feed -1", x.feed(-1), InkTaken.BAD);
        DUE.is("feed 256", x.feed(256), InkTaken.BAD);
        for (int i = 3; i <= 140; i++) DUE.is("feed " + i, x.feed('a'), i);
        DUE.is("feed 141", x.feed('a'), InkTaken.FULL);
        DUE.is("BAD comes ahead of FULL", x.feed(256), InkTaken.BAD);
        DUE.is("bytes", x.count(8), 140);
        DUE.is("archive", x.archive(), -1000100);
        DUE.is("bytes then", x.count(8), 0);
        DUE.is("feed then", x.feed('a'), 1);
    }

    private static void reads(String text, int hands) {
        InkTaken x = new InkTaken();
        DUE.is(text, Due.read(x, text), hands);
        DUE.is("fault of " + text, x.fault(), 0);
    }

    private static void faulty(String text, int place, int number) {
        InkTaken x = new InkTaken();
        DUE.is(text, Due.read(x, text), -1000100 - place);
        DUE.is("fault of " + text, x.fault(), number);
    }

    private static void archivesRead() {
        reads("i1,1;s0;", 1);
        reads("i99,99;s9;p0;r1;l2;", 4);
        reads("i01,09;h09;w05,00,09;a63,00,20;", 1);
        reads(LAW + "s0;y1,0,0;", 1);
        reads(LAW + "s0;w5,0,9;", 1);
        reads(LAW + "s0;a1,0,0;a1,1,0;a1,2,0;y1,3,0;y1,4,0;", 1);
        reads("i99,99;s0;s0;w0,0,1;w0,0,1;w0,0,1;w0,0,1;w0,0,1;w0,0,1;w0,0,1;w0,0,1;w0,0,1;w0,0,1;"
                + "a1,0,0;a1,0,0;a1,0,0;a1,0,0;a1,0,0;", 2);
        InkTaken x = Due.told("i7,3;s4;p5;w3,1,8;w4,0,2;y9,0,11;a12,1,7;");
        DUE.is("copies", x.count(2), 2);
        DUE.is("place", x.copyOf(0, 0), 3);
        DUE.is("hand", x.copyOf(0, 1), 1);
        DUE.is("width", x.copyOf(0, 2), 8);
        DUE.is("coin", x.hand(1, 0), 5);
        DUE.is("year", x.hand(0, 1), 7);
        DUE.is("deeds", x.count(3), 2);
        DUE.is("set", x.deed(0, 0), 9);
        DUE.is("one is enough", x.deed(0, 1), 0);
        DUE.is("on none", x.deed(0, 2), InkTaken.NONE);
        DUE.is("worth", x.deed(0, 3), 11);
        DUE.is("all are needed", x.deed(1, 1), 1);
        DUE.is("on the first", x.deed(1, 2), 0);
    }

    private static void faultsOfTokens() {
        faulty("x", 0, 1);
        faulty("s0;", 0, 1);
        faulty("1", 0, 1);
        faulty("123", 0, 1);
        faulty("I1,1;s0;", 0, 1);
        faulty(" i1,1;s0;", 0, 1);
        faulty("i,1;", 1, 1);
        faulty("i 1,1;", 1, 1);
        faulty("i-1,1;", 1, 1);
        faulty("i123,1;", 1, 1);
        faulty("i1234,1;", 1, 1);
        faulty("i001,1;", 1, 1);
        faulty("i1;1;", 2, 1);
        faulty("i1,1,", 4, 1);
        faulty("i1,;", 3, 1);
        faulty("i1,1;i", 5, 1);
        faulty("i1,1;w0,0,1;", 5, 1);
        faulty("i1,1;a1,0,1;", 5, 1);
        faulty("i1,1;s0,", 7, 1);
        faulty("i1,1;s0;;", 8, 1);
        faulty("i1,1;s0;5", 8, 1);
        faulty("i1,1;s0;555", 8, 1);
        faulty("i1,1;s0;i1,1;", 8, 1);
        faulty("i1,1;s0;w0,0,1;s0;", 15, 1);
        faulty("i1,1;s0;a1,0,1;w0,0,1;", 15, 1);
        faulty("i1,1;s0;a1,0,1;s0;", 15, 1);
        faulty("i1,1;s0;w0;0,1;", 10, 1);
        faulty("i1,1;s0;w0,0,1,", 14, 1);
        faulty("i1,1;s0;w0,s,1;", 11, 1);
        faulty("i1,1;s0;aa", 9, 1);
        faulty("i1,1;s0;" + (char) 0, 8, 1);
        faulty("i1,1;s0;" + (char) 233, 8, 1);
        faulty("i1,1;s0;{", 8, 1);
        faulty("i1,1;s0;/", 8, 1);
        faulty("i1,1;s:;", 6, 1);
    }

    private static void faultsOfNumbers() {
        faulty("i0,1;s0;", 1, 2);
        faulty("i00,1;s0;", 1, 2);
        faulty("i1,0;s0;", 3, 2);
        faulty("i1,1;s10;", 6, 2);
        faulty(LAW + "s0;w6,0,1;", 10, 2);
        faulty(LAW + "s0;w5,1,1;", 12, 2);
        faulty(LAW + "s0;p0;w5,2,1;", 15, 2);
        faulty(LAW + "s0;w5,0,0;", 14, 2);
        faulty(LAW + "s0;w5,0,10;", 14, 2);
        faulty(LAW + "s0;a0,0,1;", 10, 2);
        faulty(LAW + "s0;a64,0,1;", 10, 2);
        faulty(LAW + "s0;a1,1,1;", 12, 2);
        faulty(LAW + "s0;y1,0,1;y1,2,1;", 19, 2);
        faulty(LAW + "s0;y1,0,21;", 14, 2);
        faulty("i0x", 1, 2);
        faulty("i0", 1, 2);
    }

    private static void faultsOfRoom() {
        faulty(LAW + "s0;s0;s0;s0;s0;", 18, 3);
        faulty(LAW + "s0;s0;s0;s0;lx", 18, 3);
        faulty(LAW + "s0;s0;s0;s0;q0;", 18, 1);
        String tenCopies = "w0,0,1;".repeat(10);
        faulty(LAW + "s0;" + tenCopies + "w0,0,1;", 79, 3);
        faulty(LAW + "s0;" + tenCopies + "w", 79, 3);
        faulty(LAW + "s0;" + tenCopies + "s0;", 79, 1);
        String fiveDeeds = "a1,0,1;".repeat(5);
        faulty(LAW + "s0;" + fiveDeeds + "a1,0,1;", 44, 3);
        faulty(LAW + "s0;" + fiveDeeds + "y1,0,1;", 44, 3);
        faulty(LAW + "s0;" + fiveDeeds + "w0,0,1;", 44, 1);
        faulty(LAW + "s0;s0;s0;s0;w0,0,1;s0;", 25, 1);
    }

    private static void faultsOfTheEnd() {
        String whole = "i10,6;s3;w1,0,4;a2,0,7;";
        for (int end = 0; end < whole.length(); end++) {
            String cut = whole.substring(0, end);
            if (end == 9 || end == 16) {
                reads(cut, 1);
            } else {
                faulty(cut, end, 1);
            }
        }
        reads(whole, 1);
        // a tape that is full, and lacks its last byte
        String full = "i10,10;s1;" + "w0,0,1;".repeat(10) + "a10,0,10;".repeat(5);
        faulty(full + "q".repeat(140 - full.length()), full.length(), 1);
        faulty("i99,99;s1;s1;s1;s1;" + "w0,0,1;".repeat(10) + "a10,0,10;".repeat(5) + "a10,00", 134, 3);
    }

    private static void allStaysAtFault() {
        InkTaken x = Due.told("i10,6;s2;p1;w0,0,3;a1,0,5;");
        x.write(1, 1, 2);
        x.days(2);
        String ahead = Due.seen(x);
        DUE.is("a fault", Due.read(x, "i9,9;r1;w3,0,1;w9,0,1;"), -1000116);
        DUE.is("its number", x.fault(), 2);
        DUE.is("all stays", Due.seen(x), ahead.replaceAll("0 0$", "2 0"));
        DUE.is("acts can be undone yet", x.undo(), 2);
        DUE.is("a fault again", Due.read(x, "i9,9;r1;w3,0,1;r"), -1000115);
        DUE.is("its number", x.fault(), 1);
        DUE.is("none", Due.read(x, "i9,9;r1;"), 1);
        DUE.is("the latest stays", x.fault(), 1);
    }

    private static void aNewOneStandsInPlace() {
        InkTaken x = Due.told("i10,6;s2;p1;w0,0,3;w2,1,3;a1,0,5;");
        x.write(1, 0, 2);
        x.recall(0);
        x.days(3);
        x.row(4, 1, 6);
        DUE.is("archive", Due.read(x, "i9,8;r4;w3,0,1;"), 1);
        int[] counts = {1, 1, 1, 0, 0, 0, 0, 0, 0};
        for (int what = 0; what < 9; what++) DUE.is("count " + what, x.count(what), counts[what]);
        DUE.is("of this day", x.copyOf(0, 3), 0);
        DUE.is("not white", x.copyOf(0, 4), 0);
        DUE.is("nothing to undo", x.undo(), InkTaken.STATE);
        DUE.is("rows stay", x.drop(4), 6);
    }
}
