/** That a refused call leaves everything alone, and that the first refusal that fits is answered, call by call. */
public final class RefusalsTest {
    private static final int UNKNOWN = -2, OUTSIDE = -3, NOT = -4, FULL = -5;
    private static final String SOME = Edges.SOME, ALL = Edges.ALL;
    /** Refused in both states with the same answer. */
    private static final String[] NEVER_KNOWN = {"slow(8, 10)", "split(8, 1)", "join(0, 8)", "at(16, 0)", "time(0, 16, 0)", "way(16, 0, 0, 0)", "ear(16)",
        "clock(6, 0)", "shake(16, 0)", "put(5, 0, 0)", "put(0, 16, 0)", "pick(6, 0, 0, 0, 0)", "pick(0, 5, 0, 0, 0)", "tell(12, 0, 0)", "of(12, 0)",
        "span(8, 0)", "resolved(8)", "heap(5, 0, 0)", "heap(0, 16, 0)", "move(5)"};
    private static final String[] NEVER_WITHIN = {"ground(5, 2)", "ratio(31)", "slow(0, 61)", "split(0, 65536)", "join(0, 0)", "at(0, 2)", "time(0, 0, 2)",
        "way(0, 0, 0, -1)", "clock(0, 100)", "shake(0, 1001)", "put(0, 0, 1001)", "pick(0, 0, 2, 0, 0)", "tell(0, 1, 0)", "days(51)", "of(0, 5)", "misfit(-1, 0)",
        "fit(11)", "span(0, 2)", "best(2)", "heap(0, 0, 2)", "board(61, 1, 0)", "write(0, 9)", "count(8)"};

    @Says(promise = 4, value = {"Refused, and nothing changes: UNKNOWN (no such CELL, BLOCK, EAR, SHAKE, PICK)"})
    static void unknownChangesNothing() {
        for (String call : NEVER_KNOWN) {
            Edges.refuse(SOME, call, UNKNOWN);
            Edges.refuse(ALL, call, UNKNOWN);
        }
        Edges.refuse(SOME, "off(6)", -102);
    }

    @Says(promise = 2, value = {"Refused, and nothing changes", "OUTSIDE (another number is not as told)"})
    static void outsideChangesNothing() {
        for (String call : NEVER_WITHIN) {
            Edges.refuse(SOME, call, OUTSIDE);
            Edges.refuse(ALL, call, OUTSIDE);
        }
    }

    @Says(promise = 5, value = "NOT (not now: as told)")
    static void notChangesNothing() {
        Edges.refuse(SOME, "split(0, 0)", NOT);
        Edges.refuse(SOME + "; shake(0, 0)", "move(2)", NOT);
        Edges.refuse(SOME + "; write(59, 1)", "run()", NOT);
        Edges.refuse(SOME + "; ground(3, 3)", "best(1)", NOT);
        Edges.refuse(ALL, "split(7, 3)", NOT);
    }

    @Says(promise = 5, value = {"FULL: the first of these that fits", "NOT (not now: as told), FULL: the first of these that fits"})
    static void fullChangesNothing() {
        for (String call : new String[] {"split(7, 32768)", "ear(0)", "shake(0, 0)", "pick(0, 0, 0, 0, 0)", "tell(0, 0, 0)", "write(32, 1)"}) Edges.refuse(ALL, call, FULL);
    }

    @Says(promise = 14, value = "the first of these that fits")
    static void manyRefusedCallsChangeNothing() {
        Life x = Edges.life(SOME);
        for (String call : NEVER_KNOWN) x.tell(call + "=UNKNOWN");
        for (String call : NEVER_WITHIN) x.tell(call + "=OUTSIDE");
        Edges.sameLook(SOME, "all together", x);
    }

    public static void main(String[] args) {
        Edges.run(RefusalsTest.class);
    }
}
