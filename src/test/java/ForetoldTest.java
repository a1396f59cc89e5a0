/** Promises 17 to 29: what is foretold, and that nothing changes by it. */
public final class ForetoldTest {
    private static final Due DUE = new Due();
    /** Hands: a scribe, a poet, a drunk one, an heir; YEAR 10, REPENT 6. */
    private static final String FOUR = "i10,6;s2;p1;r4;h3;w0,0,3;w1,1,2;w1,2,5;w2,3,4;a3,0,9;y6,1,5;a4,0,4;";

    public static void main(String[] args) {
        fallsAndLosses();
        ransoms();
        pairs();
        daysAhead();
        firstFalls();
        safeDays();
        doublesWritten();
        leastYears();
        orders();
        blankWidths();
        forgedRecalls();
        selves();
        yearsByDraws();
        nothingChanges();
        DUE.end();
    }

    private static void fallsAndLosses() {
        DUE.is("no archive comes ahead of BAD", new InkTaken().falls(-1, 9), InkTaken.STATE);
        InkTaken x = Due.told(FOUR);
        int[] fallen = {0, 3, 0, 3, 0, 3, 3, 3, 4, 7, 4, 7, 4, 7, 7, 7};
        int[] loss = {0, 14, 0, 14, 0, 14, 14, 14, 4, 18, 4, 18, 4, 18, 18, 18};
        for (int hands = 0; hands < 16; hands++) {
            DUE.is("falls by " + hands, x.falls(hands, 0), fallen[hands]);
            DUE.is("loss by " + hands, x.falls(hands, 1), loss[hands]);
        }
        DUE.is("hands 16", x.falls(16, 0), InkTaken.BAD);
        DUE.is("hands -1", x.falls(-1, 0), InkTaken.BAD);
        DUE.is("what 2", x.falls(0, 2), InkTaken.BAD);
        DUE.is("what -1", x.falls(0, -1), InkTaken.BAD);
        InkTaken two = Due.told("i9,9;s0;p0;");
        DUE.is("both", two.falls(3, 0), 0);
        DUE.is("a hand that is not told", two.falls(4, 0), InkTaken.BAD);
        x.recall(0);
        DUE.is("what fell already falls no more", x.falls(15, 0), 4);
        x.undo();
        x.days(5);
        DUE.is("a poet's last day", x.falls(6, 0), 3);
        x.days(1);
        DUE.is("a poet may no more", x.falls(6, 0), 0);
        x.days(4);
        DUE.is("a scribe's last day", x.falls(1, 0), 3);
        x.days(1);
        DUE.is("a scribe may no more", x.falls(7, 0), 0);
        DUE.is("an heir may", x.falls(15, 0), 4);
        InkTaken late = Due.told("i3,9;s0;a1,0,1;");
        late.days(9);
        late.write(0, 0, 1);
        late.days(3);
        DUE.is("by its own day", late.falls(1, 0), 1);
        late.days(1);
        DUE.is("by its own day no more", late.falls(1, 0), 0);
    }

    private static void ransoms() {
        InkTaken x = Due.told(FOUR);
        int[] due = {14, 0, 0, 4};
        for (int hand = 0; hand < 4; hand++) DUE.is("ransom of " + hand, x.ransom(hand), due[hand]);
        DUE.is("hand 4", x.ransom(4), InkTaken.BAD);
        DUE.is("hand -1", x.ransom(-1), InkTaken.BAD);
        DUE.is("no archive", new InkTaken().ransom(0), InkTaken.BAD);
    }

    private static void pairs() {
        DUE.is("no archive comes ahead of BAD", new InkTaken().pair(2), InkTaken.STATE);
        InkTaken x = Due.told(FOUR);
        DUE.is("pair", x.pair(0), 6);
        DUE.is("by how much", x.pair(1), 14);
        DUE.is("what 2", x.pair(2), InkTaken.BAD);
        DUE.is("what -1", x.pair(-1), InkTaken.BAD);
        x.days(6);
        DUE.is("of several the first", x.pair(0), 1);
        DUE.is("by nothing", x.pair(1), 0);
        InkTaken less = Due.told("i9,9;s0;s0;w0,0,1;w1,1,1;a3,0,7;");
        DUE.is("the only one", less.pair(0), 1);
        DUE.is("below 0", less.pair(1), -7);
        InkTaken last = Due.told("i9,9;s0;s0;s0;s0;w0,2,1;w0,3,1;a1,0,7;");
        DUE.is("the last", last.pair(0), 11);
        DUE.is("by how much", last.pair(1), 7);
        InkTaken falling = Due.told("i9,9;s0;s0;s0;w0,0,1;w0,1,1;w1,0,1;w1,2,1;a1,0,9;a2,0,8;");
        DUE.is("a lesser one comes later", falling.pair(0), 1);
        DUE.is("by how much", falling.pair(1), 9);
        InkTaken allLess = Due.told("i9,9;s0;s0;s0;w0,0,1;w1,1,1;w2,2,1;a3,0,7;a5,0,5;a6,0,6;");
        DUE.is("the least less", allLess.pair(0), 2);
        DUE.is("the least less", allLess.pair(1), -5);
        InkTaken one = Due.told("i9,9;s0;");
        DUE.is("there are not two", one.pair(0), InkTaken.NONE);
        DUE.is("there are not two", one.pair(1), InkTaken.NONE);
        DUE.is("BAD comes ahead of NONE", one.pair(2), InkTaken.BAD);
    }

    private static void daysAhead() {
        DUE.is("no archive comes ahead of BAD", new InkTaken().ahead(-1, 0), InkTaken.STATE);
        InkTaken x = Due.told("i9,4;r0;s0;w0,0,1;w1,1,1;w5,0,1;a1,0,3;y34,0,2;a32,0,1;");
        DUE.is("places now", x.ahead(0, 0), 35);
        DUE.is("deeds now", x.ahead(0, 1), 7);
        DUE.is("white now", x.ahead(0, 2), 0);
        DUE.is("places ahead of it", x.ahead(3, 0), 35);
        DUE.is("places then", x.ahead(4, 0), 2);
        DUE.is("deeds then", x.ahead(4, 1), 2);
        DUE.is("white then", x.ahead(4, 2), 5);
        DUE.is("places far on", x.ahead(200, 0), 2);
        DUE.is("n 201", x.ahead(201, 0), InkTaken.BAD);
        DUE.is("n -1", x.ahead(-1, 0), InkTaken.BAD);
        DUE.is("what 3", x.ahead(0, 3), InkTaken.BAD);
        DUE.is("what -1", x.ahead(0, -1), InkTaken.BAD);
        x.recall(1);
        DUE.is("white now", x.ahead(0, 2), 2);
        DUE.is("white then", x.ahead(4, 2), 7);
        x.days(2);
        x.write(3, 0, 1);
        DUE.is("by their own days", x.ahead(2, 2), 7);
        DUE.is("by their own days", x.ahead(3, 0), 8);
        DUE.is("by their own days", x.ahead(4, 0), 0);
        for (int i = 0; i < 41; i++) x.days(24);
        x.days(13);
        x.write(3, 0, 1);
        DUE.is("beyond day 999", x.ahead(3, 0), 8);
        DUE.is("beyond day 999", x.ahead(200, 0), 0);
    }

    private static void firstFalls() {
        InkTaken x = Due.told("i9,4;r0;s0;w0,0,1;w1,1,1;a1,0,3;a2,0,2;a4,0,1;a2,1,1;");
        DUE.is("first", x.first(0, 200), 3);
        DUE.is("the last of so many", x.first(0, 4), 3);
        DUE.is("not within so many", x.first(0, 3), InkTaken.NONE);
        DUE.is("never", x.first(1, 200), InkTaken.NONE);
        DUE.is("it does not stand at all", x.first(2, 1), 0);
        DUE.is("by the one it is on", x.first(3, 9), 3);
        DUE.is("n 0", x.first(0, 0), InkTaken.BAD);
        DUE.is("n 201", x.first(0, 201), InkTaken.BAD);
        DUE.is("deed 4", x.first(4, 1), InkTaken.BAD);
        DUE.is("deed -1", x.first(-1, 1), InkTaken.BAD);
        x.days(3);
        DUE.is("on the next", x.first(0, 1), 0);
    }

    private static void safeDays() {
        InkTaken x = Due.told("i11,4;s0;p0;h0;r0;w0,0,1;w0,1,1;w0,2,1;w0,3,1;");
        int[] due = {12, 6, 23, InkTaken.NONE};
        for (int copy = 0; copy < 4; copy++) DUE.is("safe " + copy, x.safe(copy), due[copy]);
        x.days(8);
        due[1] = 8;
        for (int copy = 0; copy < 4; copy++) DUE.is("from now on " + copy, x.safe(copy), due[copy]);
        DUE.is("written later", x.write(0, 0, 1), 4);
        DUE.is("safe", x.safe(4), 20);
        x.recall(4);
        DUE.is("white", x.safe(4), InkTaken.NONE);
        DUE.is("copy 5", x.safe(5), InkTaken.BAD);
        DUE.is("copy -1", x.safe(-1), InkTaken.BAD);
        x.days(4);
        DUE.is("on its first such day", x.safe(0), 12);
        x.days(4);
        DUE.is("now", x.safe(0), 16);
        InkTaken seal = Due.told("i11,4;l0;w0,0,1;");
        DUE.is("a seal's", seal.safe(0), 0);
        seal.days(3);
        DUE.is("a seal's, now", seal.safe(0), 3);
    }

    private static void doublesDue(InkTaken x, int deed, int hands, int many, int coins, int places) {
        DUE.is("doubles of " + deed + " against " + hands, x.doubles(deed, hands, 0), many);
        DUE.is("coins of " + deed + " against " + hands, x.doubles(deed, hands, 1), coins);
        DUE.is("places of " + deed + " against " + hands, x.doubles(deed, hands, 2), places);
    }

    private static void doublesWritten() {
        int none = InkTaken.NONE;
        InkTaken x = Due.told("i9,9;s5;r0;p7;l8;w0,0,1;w1,2,1;w2,3,1;a7,0,1;y3,0,1;a24,0,1;y48,1,1;y56,3,1;");
        doublesDue(x, 0, 0, 0, 0, 0);
        doublesDue(x, 0, 1, 1, 7, 1);
        doublesDue(x, 0, 5, 2, 16, 3);
        doublesDue(x, 0, 4, 1, 5, 2);
        doublesDue(x, 0, 8, 0, 0, 0);
        doublesDue(x, 0, 13, none, none, none);
        doublesDue(x, 0, 15, none, none, none);
        doublesDue(x, 0, 10, 0, 0, 0);
        doublesDue(x, 1, 5, 1, 8, 1);
        doublesDue(x, 1, 1, 0, 0, 0);
        doublesDue(x, 2, 0, 2, 10, 24);
        doublesDue(x, 3, 0, 1, 5, 16);
        doublesDue(x, 3, 5, 3, 24, 19);
        doublesDue(x, 4, 1, 2, 14, 24);
        DUE.is("deed 5", x.doubles(5, 0, 0), InkTaken.BAD);
        DUE.is("deed -1", x.doubles(-1, 0, 0), InkTaken.BAD);
        DUE.is("hands 16", x.doubles(0, 16, 0), InkTaken.BAD);
        DUE.is("hands -1", x.doubles(0, -1, 0), InkTaken.BAD);
        DUE.is("what 3", x.doubles(0, 0, 3), InkTaken.BAD);
        DUE.is("what -1", x.doubles(0, 0, -1), InkTaken.BAD);
        for (int i = 0; i < 7; i++) x.write(5, 1, 1);
        doublesDue(x, 2, 0, 2, 10, 24);
        x.days(5);
        doublesDue(x, 0, 5, 1, 8, 1);
        InkTaken free = Due.told("i9,9;s0;s3;w0,0,1;a1,0,1;");
        doublesDue(free, 0, 1, 1, 3, 1);
        free.recall(0);
        doublesDue(free, 0, 2, 1, 0, 1);
        doublesDue(Due.told("i9,9;r1;w0,0,1;a3,0,1;"), 0, 0, none, none, none);
    }

    private static void leastYears() {
        InkTaken x = Due.told("i50,99;s0;p0;h0;r0;w0,0,1;w1,1,1;w2,2,1;w3,3,1;a1,0,1;a2,0,1;a4,0,1;a8,0,1;a3,0,1;");
        for (int deed = 0; deed < 5; deed++) DUE.is("on its day", x.law(deed, 15), 1);
        x.days(15);
        DUE.is("a scribe's", x.law(0, 1), 15);
        DUE.is("a poet's", x.law(1, 2), 30);
        DUE.is("an heir's", x.law(2, 4), 8);
        DUE.is("a drunk one's", x.law(3, 8), 15);
        DUE.is("by either", x.law(4, 3), 15);
        DUE.is("by the other alone", x.law(4, 2), 30);
        DUE.is("not by these", x.law(0, 14), InkTaken.NONE);
        DUE.is("by nobody", x.law(0, 0), InkTaken.NONE);
        x.days(24);
        x.days(10);
        DUE.is("a poet's of the longest", x.law(1, 2), 98);
        x.days(1);
        DUE.is("beyond the longest", x.law(1, 2), InkTaken.NONE);
        x.recall(0);
        DUE.is("it does not stand at all", x.law(0, 0), 1);
        DUE.is("deed 5", x.law(5, 0), InkTaken.BAD);
        DUE.is("deed -1", x.law(-1, 0), InkTaken.BAD);
        DUE.is("hands 16", x.law(0, 16), InkTaken.BAD);
        DUE.is("hands -1", x.law(0, -1), InkTaken.BAD);
        DUE.is("a seal's", Due.told("i1,1;l0;w0,0,1;a1,0,1;").law(0, 1), InkTaken.NONE);
        DUE.is("a poet's on its day", Due.told("i1,1;p0;w0,0,1;a1,0,1;").law(0, 1), 1);
        InkTaken wide = Due.told("i99,99;s0;w0,0,1;a1,0,1;");
        for (int i = 0; i < 4; i++) wide.days(24);
        wide.days(3);
        DUE.is("the longest", wide.law(0, 1), 99);
    }

    private static void ordersDue(InkTaken x, int sum, int... hands) {
        DUE.is("sum", x.order(-1), sum);
        for (int k = 0; k < 4; k++) DUE.is("hand " + k, x.order(k), k < hands.length ? hands[k] : InkTaken.NONE);
    }

    private static void orders() {
        DUE.is("no archive comes ahead of BAD", new InkTaken().order(9), InkTaken.STATE);
        InkTaken x = Due.told(FOUR);
        ordersDue(x, 14 + 18 + 18 + 18, 0, 3, 1, 2);
        DUE.is("k -2", x.order(-2), InkTaken.BAD);
        DUE.is("k 4", x.order(4), InkTaken.BAD);
        ordersDue(Due.told("i9,9;s0;s0;s0;w0,0,1;w1,1,1;w2,2,1;a1,0,2;a2,0,7;a4,0,5;"), 7 + 12 + 14, 1, 2, 0);
        ordersDue(Due.told("i9,9;s0;s0;s0;w0,0,1;w0,2,1;w1,1,1;a1,0,9;a2,0,1;"), 0 + 9 + 10, 0, 2, 1);
        ordersDue(Due.told("i9,9;s0;s0;"), 0, 0, 1);
        ordersDue(Due.told("i9,9;l0;s0;w0,1,1;a1,0,4;"), 8, 1, 0);
        DUE.is("k 4 of few hands", Due.told("i9,9;s0;").order(4), InkTaken.BAD);
    }

    private static void blanksDue(InkTaken x, int width, int many, int least) {
        DUE.is("blanks of " + width, x.blanks(width, 0), many);
        DUE.is("least of " + width, x.blanks(width, 1), least);
    }

    private static void blankWidths() {
        DUE.is("no archive comes ahead of BAD", new InkTaken().blanks(0, 0), InkTaken.STATE);
        InkTaken x = Due.told("i9,9;s0;l0;w0,0,5;w0,0,3;w0,1,2;w0,0,2;w1,0,5;");
        blanksDue(x, 1, 0, InkTaken.NONE);
        blanksDue(x, 2, 1, 8);
        blanksDue(x, 5, 3, 1);
        blanksDue(x, 10, 3, 11);
        blanksDue(x, 15, 1, 27);
        blanksDue(x, 17, 0, InkTaken.NONE);
        blanksDue(x, 90, 0, InkTaken.NONE);
        DUE.is("width 0", x.blanks(0, 0), InkTaken.BAD);
        DUE.is("width 91", x.blanks(91, 0), InkTaken.BAD);
        DUE.is("what 2", x.blanks(1, 2), InkTaken.BAD);
        DUE.is("what -1", x.blanks(1, -1), InkTaken.BAD);
        x.recall(0);
        blanksDue(x, 5, 2, 10);
        x.days(10);
        blanksDue(x, 5, 0, InkTaken.NONE);
        InkTaken all = Due.told("i9,9;s0;" + "w0,0,9;".repeat(10));
        blanksDue(all, 90, 1, 1023);
        blanksDue(all, 45, 252, 31);
        blanksDue(all, 44, 0, InkTaken.NONE);
    }

    private static int forgedOf(InkTaken x, int... items) {
        Due.lay(x, 0, items);
        return x.forged(0, 0);
    }

    private static void forgedRecalls() {
        DUE.is("no archive comes ahead of BAD", new InkTaken().forged(8, 0), InkTaken.STATE);
        InkTaken x = Due.told("i4,6;s0;p0;h0;r0;w0,0,1;w0,1,1;w0,2,1;w0,3,1;");
        DUE.is("row 8", x.forged(8, 0), InkTaken.BAD);
        DUE.is("row -1", x.forged(-1, 0), InkTaken.BAD);
        DUE.is("missing", x.forged(0, -1), Due.NULL);
        x.row(0, 0, 5);
        DUE.is("below 0", x.forged(0, -1), Due.PLACE);
        DUE.is("beyond the end", x.forged(0, 2), Due.PLACE);
        DUE.is("far beyond the end", x.forged(0, Integer.MAX_VALUE), Due.PLACE);
        DUE.is("up to the end", x.forged(0, 1), 0);
        DUE.is("nothing said", forgedOf(x, -1, -1, -1, -1), 0);
        DUE.is("today", forgedOf(x, 0, 0, 0, 0), 0);
        DUE.is("tomorrow", forgedOf(x, 1, 1, 1, 1), 15);
        DUE.is("no day", forgedOf(x, -2, -3, Integer.MIN_VALUE, Integer.MAX_VALUE), 15);
        x.days(20);
        DUE.is("last days", forgedOf(x, 4, 2, 8, 6), 0);
        DUE.is("days behind these", forgedOf(x, 5, 3, 9, 7), 15);
        DUE.is("a drunk one between its year and its repentance", forgedOf(x, 5, 3, 9, 5), 15);
        DUE.is("a drunk one in its year", forgedOf(x, 0, 0, 0, 4), 0);
        x.write(0, 0, 1);
        DUE.is("a row too short now", x.forged(0, 0), Due.PLACE);
        DUE.is("ahead of its day", forgedOf(x, -1, -1, -1, -1, 19), 16);
        DUE.is("on its day", forgedOf(x, -1, -1, -1, -1, 20), 0);
        InkTaken drunk = Due.told("i9,3;r0;l0;w0,0,1;w0,1,1;");
        drunk.days(2);
        DUE.is("ahead of its repentance", forgedOf(drunk, 2, -1), 0);
        DUE.is("not yet", forgedOf(drunk, 3, -1), 1);
        drunk.days(4);
        DUE.is("as it repents", forgedOf(drunk, 3, -1), 0);
        DUE.is("behind it, though in its year", forgedOf(drunk, 4, -1), 1);
        DUE.is("a seal's on any day", forgedOf(drunk, -1, 0), 2);
        drunk.write(0, 0, 1);
        drunk.days(3);
        DUE.is("by its own day", forgedOf(drunk, -1, -1, 9), 0);
        DUE.is("by its own day", forgedOf(drunk, -1, -1, 8), 0);
        drunk.days(1);
        DUE.is("behind its own repentance", forgedOf(drunk, -1, -1, 10), 4);
        InkTaken none = Due.told("i1,1;s0;");
        none.row(0, 0, 0);
        DUE.is("no copies", none.forged(0, 0), 0);
        DUE.is("no copies, beyond the end", none.forged(0, 1), Due.PLACE);
    }

    private static void selfDue(InkTaken x, int deed, int place, int many, int which) {
        DUE.is("ways of " + deed + " by " + place, x.itself(deed, place, 0), many);
        DUE.is("which of " + deed + " by " + place, x.itself(deed, place, 1), which);
    }

    private static void selves() {
        InkTaken x = Due.told("i9,9;s0;w0,0,1;w1,0,1;w1,0,1;a3,0,1;y3,0,1;a2,1,1;a4,0,1;y4,1,1;");
        selfDue(x, 0, 0, 0, 3);
        selfDue(x, 0, 1, 0, 3);
        selfDue(x, 0, 2, 1, 1);
        selfDue(x, 1, 0, 1, 1);
        selfDue(x, 1, 1, 1, 1);
        selfDue(x, 2, 0, 0, 3);
        selfDue(x, 2, 5, 1, 1);
        selfDue(x, 3, 2, 1, 0);
        selfDue(x, 3, 0, 1, 0);
        selfDue(x, 4, 0, 1, 0);
        x.recall(0);
        selfDue(x, 1, 1, 0, 3);
        selfDue(x, 0, 0, 1, 0);
        DUE.is("deed 5", x.itself(5, 0, 0), InkTaken.BAD);
        DUE.is("deed -1", x.itself(-1, 0, 0), InkTaken.BAD);
        DUE.is("place 6", x.itself(0, 6, 0), InkTaken.BAD);
        DUE.is("place -1", x.itself(0, -1, 0), InkTaken.BAD);
        DUE.is("what 2", x.itself(0, 0, 2), InkTaken.BAD);
        DUE.is("what -1", x.itself(0, 0, -1), InkTaken.BAD);
    }

    /** The same by real acts, on an object of its own. */
    private static void yearsDue(String text, int n, int seed) {
        InkTaken foretold = Due.told(text);
        InkTaken done = Due.told(text);
        long draw = seed;
        int recalled = 0;
        for (int i = 0; i < n; i++) {
            draw = draw * 16807 % 2147483647L;
            int copies = done.count(2);
            if (copies > 0 && draw % 7 == 0 && done.recall((int) (draw % copies)) >= 0) recalled++;
            done.days(1);
        }
        DUE.is("recalled by " + seed, foretold.years(n, seed, 0), recalled);
        DUE.is("deeds by " + seed, foretold.years(n, seed, 1), done.ahead(0, 1));
    }

    private static void yearsByDraws() {
        DUE.is("no archive comes ahead of BAD", new InkTaken().years(-1, 0, 2), InkTaken.STATE);
        String text = "i30,40;s0;h0;r0;p0;w0,0,1;w1,1,1;w2,2,1;w3,3,1;w4,0,1;a1,0,1;a2,0,1;y12,0,1;a16,1,1;";
        InkTaken x = Due.told(text);
        // the first draw by 1 is 16807, of which the rest by 7 is 0, and by 5 is 2
        DUE.is("one day by 1", x.years(1, 1, 0), 1);
        DUE.is("no day", x.years(0, 1, 0), 0);
        DUE.is("no day", x.years(0, 1, 1), 15);
        for (int seed = 1; seed < 60; seed++) yearsDue(text, 100, seed * seed * 11 + 1);
        for (int n = 0; n <= 100; n++) yearsDue(text, n, 999999 - n);
        yearsDue("i3,3;s0;a1,0,1;", 100, 7);
        yearsDue("i99,99;s0;w0,0,1;a1,0,1;", 1, 1);
        for (int n = 0; n <= 12; n++) yearsDue("i9,4;r0;s0;w0,0,1;w1,1,1;w0,0,1;a1,0,1;a2,0,1;", n, 5 + n);
        DUE.is("n -1", x.years(-1, 1, 0), InkTaken.BAD);
        DUE.is("n 101", x.years(101, 1, 0), InkTaken.BAD);
        DUE.is("seed 0", x.years(1, 0, 0), InkTaken.BAD);
        DUE.is("seed 1000000", x.years(1, 1000000, 0), InkTaken.BAD);
        DUE.is("what 2", x.years(1, 1, 2), InkTaken.BAD);
        DUE.is("what -1", x.years(1, 1, -1), InkTaken.BAD);
    }

    private static void nothingChanges() {
        InkTaken x = Due.told(FOUR);
        x.write(3, 0, 4);
        x.days(3);
        Due.lay(x, 0, 1, 2, 3, 4, 5);
        String ahead = Due.seen(x);
        for (int what = 0; what < 3; what++) {
            x.falls(15, what);
            x.ransom(what);
            x.pair(what);
            x.ahead(200, what);
            x.first(what, 200);
            x.safe(what);
            x.doubles(what, 3, what);
            x.law(what, 15);
            x.order(what);
            x.blanks(9, what);
            x.forged(0, 0);
            x.itself(what, 1, what);
            x.years(100, 77, what);
            x.image(0);
        }
        DUE.is("nothing changes", Due.seen(x), ahead);
    }
}
