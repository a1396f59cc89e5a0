/** Promises 32 to 35: kinds of hands, what they are taken as, asks and their trace. */
public final class AskedTest {
    private static final Due DUE = new Due();

    public static void main(String[] args) {
        kindsTold();
        takenAs();
        asked();
        traceKept();
        DUE.end();
    }

    private static void kindsTold() {
        InkTaken x = Due.told("i9,9;s0;p0;r0;h0;");
        for (int hand = 0; hand < 4; hand++) DUE.is("kind of " + hand, x.kind(hand), hand + 1);
        DUE.is("hand 4", x.kind(4), InkTaken.BAD);
        DUE.is("hand -1", x.kind(-1), InkTaken.BAD);
        DUE.is("a seal", Due.told("i9,9;l0;").kind(0), 5);
        DUE.is("no archive", new InkTaken().kind(0), InkTaken.BAD);
    }

    private static void takenAs() {
        // by sort, then by kind 0 .. 5
        String[] may = {"110000", "111000", "110100", "100010", "100011"};
        for (int sort = 0; sort < 5; sort++) {
            InkTaken x = Due.told("i9,9;s0;" + "sprhl".charAt(sort) + "3;");
            for (int kind = 0; kind < 6; kind++) {
                boolean fine = may[sort].charAt(kind) == '1';
                DUE.is("sort " + sort + " as " + kind, x.as(1, kind), fine ? 1 : Due.KIND);
                DUE.is("its status", x.status(), fine ? 0 : 3);
            }
            DUE.is("kind 6", x.as(1, 6), InkTaken.BAD);
            DUE.is("kind -1", x.as(1, -1), InkTaken.BAD);
            DUE.is("hand 2", x.as(2, 0), InkTaken.BAD);
            DUE.is("hand -1", x.as(-1, 0), InkTaken.BAD);
        }
    }

    private static void askDue(InkTaken x, int hand, int what, int answer, int... trace) {
        DUE.is("ask " + what + " of " + hand, x.ask(hand, what), answer);
        for (int i = 0; i < 17; i++) {
            DUE.is("trace " + i, x.trace(i), i < trace.length ? trace[i] : InkTaken.NONE);
        }
    }

    private static void asked() {
        InkTaken x = Due.told("i9,9;s4;p5;r6;h7;w0,0,1;w0,1,1;w1,1,1;w2,1,1;w3,2,1;w4,2,1;w5,3,1;");
        askDue(x, 0, 1, 1, 21, 20);
        askDue(x, 0, 0, 5, 11, 10, 21, 20);
        askDue(x, 1, 1, 8, 24, 21, 20);
        askDue(x, 1, 0, -13, 12, 11, 10, 24, 21, 20);
        askDue(x, 2, 1, -996, 22, 21, 20);
        askDue(x, 2, 0, -990, 11, 10, 22, 21, 20);
        askDue(x, 3, 0, -93, 13, 10);
        askDue(x, 3, 1, 96, 23, 20, 13, 10);
        x.recall(2);
        askDue(x, 1, 1, 6, 24, 21, 20);
        InkTaken seal = Due.told("i9,9;s4;l8;w0,1,1;");
        askDue(seal, 1, 0, -184, 14, 13, 10);
        askDue(seal, 1, 1, 185, 23, 20, 14, 13, 10);
    }

    private static void traceKept() {
        InkTaken x = Due.told("i9,9;s4;h1;");
        x.ask(0, 0);
        DUE.is("hand 2", x.ask(2, 0), InkTaken.BAD);
        DUE.is("hand -1", x.ask(-1, 0), InkTaken.BAD);
        DUE.is("what 2", x.ask(0, 2), InkTaken.BAD);
        DUE.is("what -1", x.ask(0, -1), InkTaken.BAD);
        DUE.is("a refusal leaves it", x.trace(3), 20);
        DUE.is("below 0", x.trace(-1), InkTaken.NONE);
        DUE.is("far on", x.trace(Integer.MAX_VALUE), InkTaken.NONE);
        x.ask(1, 0);
        DUE.is("empty ahead of an ask", x.trace(2), InkTaken.NONE);
        Due.read(x, "i1,1;l0;");
        DUE.is("an archive leaves it", x.trace(0), 13);
    }
}
