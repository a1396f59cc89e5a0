/**
 * A test for each sentence about what is foretold that names an edge, in the document's order:
 * none, all, the first of several, the last day, the day behind it. Bounds of numbers stand in BoundsTest.
 */
public final class EdgesForetoldTest {
    private static final Due DUE = new Due();
    private static final int NONE = InkTaken.NONE;

    public static void main(String[] args) {
        nothingChanges();
        recalledByNobody();
        recalledOnTheLastDay();
        fallsOfWhatStands();
        lossesLeastAndMost();
        pairsThereAreNot();
        pairsOfSeveral();
        aheadByNoDay();
        aheadByAll();
        firstOfTheNext();
        safeFromNow();
        safeNever();
        doublesOfNone();
        doublesOfAll();
        doublesByWhom();
        doublesOfSeveralWays();
        lawLeastAndMost();
        lawOfNone();
        ordersOfFew();
        ordersOfSeveral();
        blanksOfNone();
        blanksOfAll();
        forgedDays();
        forgedByDrunkOnes();
        forgedRows();
        selfOfNoWay();
        yearsOfNoDay();
        yearsToTheDay();
        DUE.end();
    }

    private static void is(String call, int got, int want) {
        DUE.is(call, got, want);
    }

    private static void pass(InkTaken x, int days) {
        for (int rest = days; rest > 0; rest -= Math.min(rest, 24)) x.days(Math.min(rest, 24));
    }

    /** "FORETOLD (nothing changes)" */
    private static void nothingChanges() {
        for (int what = 0; what < 2; what++) {
            int k = what;
            DUE.unchanged("falls", Due::inUse, x -> x.falls(15, k));
            DUE.unchanged("ransom", Due::inUse, x -> x.ransom(k));
            DUE.unchanged("pair", Due::inUse, x -> x.pair(k));
            DUE.unchanged("ahead", Due::inUse, x -> x.ahead(200, k));
            DUE.unchanged("first", Due::inUse, x -> x.first(k, 200));
            DUE.unchanged("safe", Due::inUse, x -> x.safe(k));
            DUE.unchanged("doubles", Due::inUse, x -> x.doubles(0, 15, k));
            DUE.unchanged("law", Due::inUse, x -> x.law(k, 15));
            DUE.unchanged("order", Due::inUse, x -> x.order(k - 1));
            DUE.unchanged("blanks", Due::inUse, x -> x.blanks(9, k));
            DUE.unchanged("forged", Due::inUse, x -> x.forged(2, k));
            DUE.unchanged("itself", Due::inUse, x -> x.itself(0, 0, k));
            DUE.unchanged("years", Due::inUse, x -> x.years(100, 1, k));
        }
    }

    /** "RECALLED by a set of HANDS": the empty set, those without COPIES, seals */
    private static void recalledByNobody() {
        InkTaken x = Due.told("i9,9;s0;p0;l0;w0,0,1;w1,2,1;a1,0,4;a2,0,5;");
        is("the empty set", x.falls(0, 0), 0);
        is("its loss", x.falls(0, 1), 0);
        is("a hand without copies", x.falls(2, 0), 0);
        is("its ransom", x.ransom(1), 0);
        is("a seal", x.falls(4, 0), 0);
        is("its ransom", x.ransom(2), 0);
        is("all", x.falls(7, 0), 1);
    }

    /** "each recalls all that it may now" */
    private static void recalledOnTheLastDay() {
        String[] sorts = {"s", "p", "h"};
        int[] limits = {7, 3, 14};
        for (int k = 0; k < 3; k++) {
            InkTaken x = Due.told("i7,9;" + sorts[k] + "0;w0,0,1;w0,0,1;a1,0,6;");
            pass(x, limits[k]);
            is("on the last day", x.falls(1, 0), 1);
            is("its ransom", x.ransom(0), 6);
            is("its doubles", x.doubles(0, 1, 0), NONE);
            is("its order", x.order(-1), 6);
            is("blanks", x.blanks(2, 0), 1);
            x.days(1);
            is("behind it", x.falls(1, 0), 0);
            is("no ransom", x.ransom(0), 0);
            is("no doubles", x.doubles(0, 1, 0), 0);
            is("no order", x.order(-1), 0);
            is("no blanks", x.blanks(2, 0), 0);
        }
        InkTaken late = Due.told("i1,9;s0;w0,0,1;a1,0,6;");
        late.days(1);
        late.write(0, 0, 1);
        is("both", late.falls(1, 0), 1);
        late.days(1);
        is("the later alone", late.falls(1, 0), 0);
        late.undo();
        is("both again", late.falls(1, 0), 1);
    }

    /** "DEEDS (bits) that STAND now, and would not then" */
    private static void fallsOfWhatStands() {
        InkTaken x = Due.told("i9,9;s0;s0;w0,0,1;w1,1,1;a1,0,1;a2,1,2;a4,0,4;y3,0,8;a2,0,16;");
        is("by the first, with what is on it", x.falls(1, 0), 0b00011);
        is("by the second", x.falls(2, 0), 0b10010);
        is("by both", x.falls(3, 0), 0b11011);
        is("what does not stand has no loss", x.falls(3, 1), 27);
        x.recall(1);
        is("what fell does not fall again", x.falls(3, 0), 0b01001);
    }

    /** "LOSS: WORTH of these, added" */
    private static void lossesLeastAndMost() {
        InkTaken free = Due.told("i9,9;s0;w0,0,1;a1,0,0;");
        is("a deed of no worth falls", free.falls(1, 0), 1);
        is("and nothing is lost", free.falls(1, 1), 0);
        InkTaken dear = Due.told("i9,9;s0;w0,0,1;" + "a1,0,20;".repeat(5));
        is("all fall", dear.falls(1, 0), 31);
        is("all is lost", dear.falls(1, 1), 100);
        is("its ransom", dear.ransom(0), 100);
        is("no deeds", Due.told("i9,9;s0;w0,0,1;").falls(1, 1), 0);
    }

    /** "NONE: there are not two" */
    private static void pairsThereAreNot() {
        InkTaken one = Due.told("i9,9;s0;w0,0,1;a1,0,5;");
        is("one hand", one.pair(0), NONE);
        is("by how much", one.pair(1), NONE);
        is("BAD ahead of it", one.pair(2), InkTaken.BAD);
        InkTaken two = Due.told("i9,9;s0;s0;");
        is("two hands", two.pair(0), 1);
        is("by how much", two.pair(1), 0);
        Due.read(two, "i9,9;h0;");
        is("one hand again", two.pair(0), NONE);
    }

    /** "of several the first (by the lesser, then the other)", "can be below 0" */
    private static void pairsOfSeveral() {
        InkTaken outer = Due.told("i9,9;s0;s0;s0;s0;w0,0,1;w0,3,1;w1,1,1;w1,2,1;a1,0,5;a2,0,5;");
        is("by the lesser", outer.pair(0), 3);
        is("by how much", outer.pair(1), 5);
        InkTaken other = Due.told("i9,9;s0;s0;s0;s0;w0,1,1;w0,2,1;w1,1,1;w1,3,1;a1,0,5;a2,0,5;");
        is("then by the other", other.pair(0), 6);
        InkTaken more = Due.told("i9,9;s0;s0;s0;s0;w0,1,1;w0,2,1;w1,1,1;w1,3,1;a1,0,5;a2,0,6;");
        is("but for more the later", more.pair(0), 7);
        is("by how much", more.pair(1), 6);
        InkTaken least = Due.told("i9,9;s0;s0;w0,0,1;w1,1,1;" + "a3,0,20;".repeat(5));
        is("far below 0", least.pair(1), -100);
        is("it is a pair", least.pair(0), 1);
        InkTaken sorts = Due.told("i9,9;s0;p0;r0;h0;w0,2,1;w0,3,1;a1,0,1;");
        is("the last two", sorts.pair(0), 11);
    }

    /** "AHEAD by n DAYS (0 to 200), nobody doing anything" */
    private static void aheadByNoDay() {
        InkTaken x = Due.told("i9,1;r0;s0;w0,0,1;w5,1,1;w4,1,1;a1,0,1;y32,0,1;");
        x.recall(2);
        is("places now", x.ahead(0, 0), 33);
        is("deeds now", x.ahead(0, 1), 3);
        is("white now", x.ahead(0, 2), 4);
        is("places of one day on", x.ahead(1, 0), 32);
        is("deeds of one day on", x.ahead(1, 1), 2);
        is("white of one day on", x.ahead(1, 2), 5);
        InkTaken empty = Due.told("i9,1;r0;");
        for (int what = 0; what < 3; what++) is("nothing", empty.ahead(200, what), 0);
    }

    private static void aheadByAll() {
        InkTaken x = Due.told("i99,99;s0;r0;w0,0,1;w1,1,1;a3,0,1;");
        is("the day ahead of repentance", x.ahead(98, 2), 0);
        is("repentance", x.ahead(99, 2), 2);
        is("200 days on", x.ahead(200, 0), 1);
        pass(x, 999);
        x.write(1, 1, 1);
        is("from day 999, 98 days on", x.ahead(98, 0), 3);
        is("from day 999, 99 days on", x.ahead(99, 0), 1);
        is("first, beyond day 999", x.first(0, 200), 98);
    }

    /** "the first of the next n DAYS (1 to 200; 0 on) behind which it does not STAND; NONE" */
    private static void firstOfTheNext() {
        InkTaken x = Due.told("i9,99;r0;s0;w0,0,1;w1,1,1;a1,0,1;a2,0,1;a4,0,1;y3,1,1;");
        is("within 98", x.first(0, 98), NONE);
        is("within 99", x.first(0, 99), 98);
        is("within 200", x.first(0, 200), 98);
        is("never", x.first(1, 200), NONE);
        is("it does not stand now", x.first(2, 1), 0);
        is("it does not stand now", x.first(2, 200), 0);
        is("with the one it is on", x.first(3, 200), 98);
        pass(x, 98);
        is("behind the next", x.first(0, 1), 0);
        x.days(1);
        is("it fell", x.first(0, 1), 0);
    }

    /** "the first DAY (its number) from now on on which its HAND may no more recall it" */
    private static void safeFromNow() {
        InkTaken x = Due.told("i3,9;s0;p0;h0;l0;w0,0,1;w0,1,1;w0,2,1;w0,3,1;");
        int[] first = {4, 2, 7, 0};
        for (int day = 0; day < 9; day++) {
            for (int copy = 0; copy < 4; copy++) {
                is("safe on day " + day + " of " + copy, x.safe(copy), Math.max(day, first[copy]));
                is("may be recalled", x.copyOf(copy, 5), day < first[copy] ? 1 : 0);
            }
            x.days(1);
        }
        InkTaken late = Due.told("i99,9;h0;");
        pass(late, 999);
        late.write(0, 0, 1);
        is("beyond day 999", late.safe(0), 999 + 198 + 1);
    }

    /** "NONE: it is white, or its HAND is a drunk one" */
    private static void safeNever() {
        InkTaken x = Due.told("i3,9;s0;r0;l0;w0,0,1;w0,1,1;w0,2,1;");
        is("a drunk one's", x.safe(1), NONE);
        x.recall(0);
        is("white", x.safe(0), NONE);
        x.undo();
        is("not white", x.safe(0), 4);
        x.days(4);
        is("a drunk one's that may no more be recalled", x.safe(1), NONE);
        x.days(5);
        is("a drunk one's that is white", x.safe(1), NONE);
        is("a seal's", x.safe(2), 9);
    }

    private static void doubles(String call, InkTaken x, int deed, int hands, int many, int coins, int places) {
        is(call + ": how many", x.doubles(deed, hands, 0), many);
        is(call + ": coins", x.doubles(deed, hands, 1), coins);
        is(call + ": places", x.doubles(deed, hands, 2), places);
    }

    /** "NONE: it needs some, and there is no such HAND" */
    private static void doublesOfNone() {
        InkTaken seal = Due.told("i9,9;l7;w0,0,1;a1,0,1;a3,0,1;");
        doubles("it needs none, and there is no such hand", seal, 0, 1, 0, 0, 0);
        doubles("it needs some, and there is no such hand", seal, 1, 1, NONE, NONE, NONE);
        doubles("it needs some, and there is one", seal, 1, 0, 1, 7, 2);
        InkTaken drunk = Due.told("i9,9;r0;w0,0,1;a1,0,1;a3,0,1;");
        doubles("it needs none, and there is a drunk one alone", drunk, 0, 0, 0, 0, 0);
        doubles("it needs some, and there is a drunk one alone", drunk, 1, 0, NONE, NONE, NONE);
        doubles("it would by its own hand", drunk, 0, 1, NONE, NONE, NONE);
    }

    /** "(whatever room there is)" */
    private static void doublesOfAll() {
        InkTaken bare = Due.told("i9,9;s9;a63,0,1;");
        doubles("all six places", bare, 0, 0, 6, 54, 63);
        InkTaken full = Due.told("i9,9;s9;p2;" + "w0,0,1;".repeat(10) + "a63,0,1;a1,0,1;");
        is("there is no room", full.write(0, 0, 1), InkTaken.FULL);
        doubles("five places", full, 0, 0, 5, 10, 62);
        doubles("all six against the scribe", full, 0, 1, 6, 12, 63);
        doubles("one against the scribe", full, 1, 1, 1, 2, 1);
        doubles("all six against both", full, 0, 3, NONE, NONE, NONE);
    }

    /** "by HANDS that are not of the set and no drunk ones", "each by the cheapest such HAND" */
    private static void doublesByWhom() {
        InkTaken x = Due.told("i9,9;r0;s3;h5;l8;a1,0,1;");
        doubles("not by the drunk one", x, 0, 0, 1, 3, 1);
        doubles("not by the scribe of the set", x, 0, 2, 1, 5, 1);
        doubles("not by the heir", x, 0, 6, 1, 8, 1);
        doubles("by the scribe", x, 0, 12, 1, 3, 1);
        doubles("by nobody", x, 0, 14, NONE, NONE, NONE);
        doubles("by one that costs nothing", Due.told("i9,9;s4;p0;a3,0,1;"), 0, 0, 2, 0, 3);
        InkTaken white = Due.told("i9,9;s4;w0,0,1;a1,0,1;");
        doubles("it is black", white, 0, 0, 0, 0, 0);
        white.recall(0);
        doubles("it is white", white, 0, 0, 1, 4, 1);
    }

    /** "the fewest PLACES", "of several ways the least" */
    private static void doublesOfSeveralWays() {
        InkTaken x = Due.told("i9,9;s1;y48,0,1;y3,0,1;y6,2,1;y40,3,1;a32,4,1;");
        doubles("the least place of two", x, 0, 0, 1, 1, 16);
        doubles("the one place that serves both", x, 2, 0, 1, 1, 2);
        doubles("that, and the least of two", x, 3, 0, 2, 2, 10);
        doubles("that, and the one that serves both", x, 4, 0, 2, 2, 34);
    }

    private static int law(String sort, int age) {
        InkTaken x = Due.told("i1,99;" + sort + "0;w0,0,1;a1,0,1;");
        pass(x, age);
        return x.law(0, 1);
    }

    /** "the least YEAR (1 to 99) by which it does not STAND when they have recalled all that they may now by that" */
    private static void lawLeastAndMost() {
        int[] ages = {0, 1, 2, 3, 49, 50, 98, 99, 100, 197, 198, 199};
        int[] scribes = {1, 1, 2, 3, 49, 50, 98, 99, NONE, NONE, NONE, NONE};
        int[] poets = {1, 2, 4, 6, 98, NONE, NONE, NONE, NONE, NONE, NONE, NONE};
        int[] heirs = {1, 1, 1, 2, 25, 25, 49, 50, 50, 99, 99, NONE};
        for (int k = 0; k < ages.length; k++) {
            is("a scribe's of " + ages[k], law("s", ages[k]), scribes[k]);
            is("a poet's of " + ages[k], law("p", ages[k]), poets[k]);
            is("an heir's of " + ages[k], law("h", ages[k]), heirs[k]);
            is("a seal's of " + ages[k], law("l", ages[k]), NONE);
        }
        is("a drunk one's on its last day", law("r", 98), 98);
        is("a drunk one's that is white", law("r", 99), 1);
    }

    private static void lawOfNone() {
        InkTaken x = Due.told("i9,9;s0;l0;w0,0,1;w1,1,1;a1,0,1;y3,0,1;a4,0,1;");
        is("by nobody", x.law(0, 0), NONE);
        is("by a hand without a copy of it", x.law(0, 2), NONE);
        is("one place is enough", x.law(1, 3), NONE);
        is("it does not stand as it is", x.law(2, 0), 1);
        x.recall(0);
        is("it fell", x.law(0, 0), 1);
        is("its own year stays", x.hand(0, 1), 9);
    }

    /** "NONE: no such one" */
    private static void ordersOfFew() {
        for (int hands = 1; hands <= 4; hands++) {
            InkTaken x = Due.told("i9,9;" + "s0;".repeat(hands));
            is("no loss", x.order(-1), 0);
            for (int k = 0; k < 4; k++) is("the first order", x.order(k), k < hands ? k : NONE);
        }
    }

    /** "is most, of several the first (by numbers)" */
    private static void ordersOfSeveral() {
        String hands = "i9,9;s0;s0;s0;s0;w0,0,1;w1,1,1;w2,2,1;w3,3,1;";
        InkTaken back = Due.told(hands + "a1,0,1;a2,0,2;a4,0,3;a8,0,4;");
        is("sum", back.order(-1), 4 + 7 + 9 + 10);
        for (int k = 0; k < 4; k++) is("the last first", back.order(k), 3 - k);
        InkTaken even = Due.told(hands + "a1,0,2;a2,0,2;a4,0,2;a8,0,2;");
        is("sum", even.order(-1), 2 + 4 + 6 + 8);
        for (int k = 0; k < 4; k++) is("the first of all", even.order(k), k);
        InkTaken two = Due.told(hands + "a1,0,2;a2,0,5;a4,0,2;a8,0,5;");
        int[] due = {1, 3, 0, 2};
        for (int k = 0; k < 4; k++) is("the first of four", two.order(k), due[k]);
        Due.read(two, "i9,9;s0;s0;s0;w0,2,1;a1,0,1;");
        is("of fewer hands than before", two.order(-1), 3);
        int[] fewer = {2, 0, 1, NONE};
        for (int k = 0; k < 4; k++) is("of fewer hands than before", two.order(k), fewer[k]);
    }

    /** "sets of COPIES, not empty, not white, that their HANDS may recall now" */
    private static void blanksOfNone() {
        InkTaken x = Due.told("i9,3;s0;l0;r0;w0,0,1;w0,1,2;w0,2,4;");
        int[] many = {1, 0, 0, 1, 1, 0, 0};
        int[] least = {1, NONE, NONE, 4, 5, NONE, NONE};
        for (int k = 0; k < 7; k++) {
            is("of width " + (k + 1), x.blanks(k + 1, 0), many[k]);
            is("least of width " + (k + 1), x.blanks(k + 1, 1), least[k]);
        }
        x.recall(0);
        is("a white one", x.blanks(1, 0), 0);
        is("a white one", x.blanks(1, 1), NONE);
        is("with a white one", x.blanks(5, 0), 0);
        x.days(3);
        is("one that went white by itself", x.blanks(4, 0), 0);
        is("no copies", Due.told("i9,9;s0;").blanks(1, 0), 0);
        is("no copies", Due.told("i9,9;s0;").blanks(90, 1), NONE);
    }

    /** "how many; the least (bits)" */
    private static void blanksOfAll() {
        InkTaken x = Due.told("i9,9;s0;" + "w0,0,9;".repeat(10));
        int[] ways = {1, 10, 45, 120, 210, 252, 210, 120, 45, 10, 1};
        for (int many = 1; many <= 10; many++) {
            is("sets of " + many, x.blanks(9 * many, 0), ways[many]);
            is("the least of " + many, x.blanks(9 * many, 1), (1 << many) - 1);
        }
        is("one less than all", x.blanks(89, 0), 0);
        InkTaken unlike = Due.told("i9,9;s0;w0,0,9;w0,0,8;w0,0,7;w0,0,6;w0,0,5;w0,0,4;w0,0,3;w0,0,2;w0,0,1;w0,0,1;");
        int sum = 0;
        for (int width = 1; width <= 90; width++) sum += unlike.blanks(width, 0);
        is("all sets but the empty one", sum, 1023);
        is("the least of 10", unlike.blanks(10, 1), 0b101000);
        is("the least of 9", unlike.blanks(9, 1), 1);
        is("the only one of 46", unlike.blanks(46, 0), 1);
        is("wider than all", unlike.blanks(47, 0), 0);
    }

    private static int forged(InkTaken x, int said) {
        Due.lay(x, 0, said);
        return x.forged(0, 0);
    }

    /** "on a DAY from that on of which it is, till now, on which its HAND may recall it" */
    private static void forgedDays() {
        String[] sorts = {"s", "p", "h", "l"};
        int[] limits = {5, 2, 10, -1};
        for (int k = 0; k < 4; k++) {
            InkTaken x = Due.told("i5,9;" + sorts[k] + "0;");
            x.days(3);
            x.write(0, 0, 1);
            x.days(20);
            for (int said = -5; said < 30; said++) {
                boolean can = said == -1 || said >= 3 && said <= 3 + limits[k];
                is(sorts[k] + " on " + said, forged(x, said), can ? 0 : 1);
            }
            is("the least int", forged(x, Integer.MIN_VALUE), 1);
            is("the most int", forged(x, Integer.MAX_VALUE), 1);
        }
        InkTaken now = Due.told("i5,9;s0;w0,0,1;");
        now.days(4);
        is("now", forged(now, 4), 0);
        is("tomorrow", forged(now, 5), 1);
    }

    /** "of a drunk one on that, too, on which it is REPENT DAYS old, on none behind that" */
    private static void forgedByDrunkOnes() {
        int[][] laws = {{3, 7}, {7, 3}, {5, 5}, {4, 5}, {6, 5}, {1, 1}};
        for (int[] law : laws) {
            InkTaken x = Due.told("i" + law[0] + "," + law[1] + ";r0;");
            x.days(2);
            x.write(0, 0, 1);
            x.days(20);
            for (int said = 0; said < 22; said++) {
                int age = said - 2;
                boolean can = age >= 0 && age <= law[1] && (age <= law[0] || age == law[1]);
                is("year " + law[0] + ", repent " + law[1] + ", on " + said, forged(x, said), can ? 0 : 1);
            }
        }
        InkTaken young = Due.told("i9,4;r0;w0,0,1;");
        young.days(3);
        is("the day of repentance, ahead of it", forged(young, 4), 1);
        young.days(1);
        is("the day of repentance, on it", forged(young, 4), 0);
    }

    /** "as many ITEMS as COPIES, of a ROW from i on" */
    private static void forgedRows() {
        InkTaken x = Due.told("i9,9;l0;" + "w0,0,1;".repeat(10));
        x.row(0, 0, 10);
        is("as many", x.forged(0, 0), 1023);
        is("one on", x.forged(0, 1), Due.PLACE);
        x.row(0, 0, 9);
        is("one less", x.forged(0, 0), Due.PLACE);
        x.row(0, 0, 40);
        is("up to the end", x.forged(0, 30), 1023);
        is("beyond it", x.forged(0, 31), Due.PLACE);
        for (int i = 0; i < 40; i++) x.set(0, i, i == 29 || i == 39 ? 5 : -1);
        is("the last", x.forged(0, 30), 512);
        is("the first", x.forged(0, 29), 1);
        is("none", x.forged(0, 19 - 9), 0);
        InkTaken none = Due.told("i9,9;s0;");
        none.row(0, 0, 2);
        is("no copies, at the end", none.forged(0, 2), 0);
        is("no copies, beyond it", none.forged(0, 3), Due.PLACE);
        is("no copies, a missing row", none.forged(1, 0), Due.NULL);
    }

    private static void self(InkTaken x, int deed, int place, int many, int which) {
        is("in how many ways, " + deed + " by " + place, x.itself(deed, place, 0), many);
        is("which, " + deed + " by " + place, x.itself(deed, place, 1), which);
    }

    /** "1 it STANDS alone, 0 it does not alone, 2 both, 3 neither" */
    private static void selfOfNoWay() {
        InkTaken x = Due.told("i9,9;s0;w0,0,1;w1,0,1;a1,0,1;a2,1,1;y3,0,1;a4,0,1;y1,4,1;");
        self(x, 0, 0, 0, 3);
        self(x, 0, 1, 1, 1);
        self(x, 0, 5, 1, 1);
        self(x, 1, 0, 0, 3);
        self(x, 2, 0, 1, 1);
        self(x, 2, 1, 1, 1);
        self(x, 3, 2, 1, 0);
        self(x, 3, 0, 1, 0);
        self(x, 4, 0, 1, 0);
        x.recall(1);
        self(x, 2, 0, 0, 3);
        self(x, 2, 1, 1, 1);
        self(x, 1, 1, 1, 0);
        InkTaken twice = Due.told("i9,9;s0;w0,0,1;w0,0,1;a1,0,1;");
        self(twice, 0, 0, 0, 3);
    }

    /** "n DAYS (0 to 100)" */
    private static void yearsOfNoDay() {
        InkTaken x = Due.told("i99,1;s0;r0;w0,0,1;w1,1,1;a1,0,1;a2,0,1;");
        is("none recalled", x.years(0, 1, 0), 0);
        is("deeds as they are", x.years(0, 1, 1), 3);
        InkTaken none = Due.told("i99,1;s0;a1,0,1;");
        is("no copies", none.years(100, 999999, 0), 0);
        is("no copies", none.years(100, 999999, 1), 0);
        InkTaken late = Due.told("i99,99;s0;");
        pass(late, 999);
        late.write(0, 0, 1);
        is("beyond day 999", late.years(100, 1, 0), 1);
    }

    /** The draws of SEED 1 begin 16807, 282475249: of both the rest by 7 is 0. */
    private static void yearsToTheDay() {
        InkTaken four = Due.told("i9,9;s0;w0,0,1;w1,0,1;w2,0,1;w3,0,1;a1,0,1;a2,0,1;a4,0,1;a8,0,1;");
        is("the rest by 4 is 3", four.years(1, 1, 1), 0b0111);
        is("then it is 1", four.years(2, 1, 1), 0b0101);
        is("two were recalled", four.years(2, 1, 0), 2);
        InkTaken two = Due.told("i9,9;s0;w0,0,1;w1,0,1;a1,0,1;a2,0,1;");
        is("the rest by 2 is 1", two.years(1, 1, 1), 1);
        is("and is 1 again: it is white", two.years(2, 1, 0), 1);
        InkTaken drunk = Due.told("i9,1;r0;w0,0,1;a1,0,1;");
        is("ahead of the day", drunk.years(1, 1, 0), 1);
        is("not recalled", drunk.years(1, 127774, 0), 0);
        is("white by itself", drunk.years(1, 127774, 1), 0);
        is("not yet", drunk.years(0, 127774, 1), 1);
        // 127773 times 16807 is below 2147483647, so that its rest by 7 is 0; 127774 times it is 13971 above
        InkTaken one = Due.told("i9,9;s0;w0,0,1;a1,0,1;");
        is("ahead of where draws wrap around", one.years(1, 127773, 0), 1);
        is("behind it", one.years(1, 127774, 0), 0);
        is("it stands yet", one.years(1, 127774, 1), 1);
        InkTaken old = Due.told("i1,9;s0;w0,0,1;a1,0,1;");
        old.days(1);
        is("on its last day", old.years(1, 1, 0), 1);
        old.days(1);
        is("behind it", old.years(1, 1, 0), 0);
        is("it stands", old.years(100, 1, 1), 1);
        is("a seal's", Due.told("i9,9;l0;w0,0,1;").years(100, 1, 0), 0);
        is("all", four.years(100, 1, 0), allDrawn(9, 4, 1));
        is("all by the last seed", four.years(100, 999999, 0), allDrawn(9, 4, 999999));
    }

    /** How many of so many COPIES of DAY 0 the draws of so many DAYS from 0 on take. */
    private static int allDrawn(int lastDay, int copies, int seed) {
        long draw = seed;
        int drawn = 0;
        for (int day = 0; day <= lastDay; day++) {
            draw = draw * 16807 % 2147483647;
            if (draw % 7 == 0) drawn |= 1 << draw % copies;
        }
        return Integer.bitCount(drawn);
    }
}
