/** Promises 19 to 28, sentence by sentence: fits, spans, quarrels, rank, heaps, clocks and boards, at their edges. */
public final class FittingEdgesTest {
    private static final int NONE = -1, UNKNOWN = -2, OUTSIDE = -3, NOT = -4;
    private static final String SOME = Edges.SOME, ALL = Edges.ALL;
    /** An ear in cell 1, a shake in cell 0, all in block 0: twice its slow by kind 0. */
    private static final String PAIR = "ground(2, 2); ear(1); shake(0, 0)";
    /** The same with cell 1 in block 1: the sum of both blocks. */
    private static final String SUM = PAIR + "; split(0, 2)";
    /**
     * Cells 0 and 2 in block 0, 1 and 3 in block 1. Ear 0 hears shake 0 by the sum of both, ear 1 hears shake 0 by
     * twice block 0, ear 0 hears shake 1 by twice block 1, whatever their slows are.
     */
    private static final String THREE = "ground(2, 2); split(0, 10); ear(1); ear(2); shake(0, 0); shake(3, 0)";
    /**
     * Three picks hold the sum from 60 to 62, one pulls block 0 up to 60, one pulls block 1 down to 1: a sweep takes
     * each just 2 farther, for the sum is worth more.
     */
    private static final String DRIFT = THREE + "; slow(0, 10); slow(1, 50); pick(0, 0, 0, 60, 62); pick(0, 0, 0, 60, 62);"
        + "pick(0, 0, 0, 60, 62); pick(1, 0, 0, 120, 120); pick(0, 1, 0, 2, 2)";

    private static String times(int n, String row) {
        return ("; " + row).repeat(n);
    }

    // ---- 19

    @Says(promise = 19, value = {"FITTED by n SWEEPS (1 .. 10) at most: MISFIT then", "FITTED: SWEEPS, as many as told at most"})
    static void fitOneToTenSweeps() {
        Edges.life(DRIFT).tell("misfit(0, 0)=198");
        for (int n = 1; n <= 10; n++) {
            int misfit = 198 - 8 * n;
            Edges.life(DRIFT).tell("fit(" + n + ")=" + misfit + "; misfit(0, 0)=" + misfit + "; at(0, 1)=" + (10 + 2 * n) + "; at(1, 1)=" + (50 - 2 * n));
        }
        Edges.life(DRIFT).tell("fit(10)=118; fit(1)=110; fit(9)=38; fit(10)=0; at(0, 1)=60; at(1, 1)=1");
    }

    @Says(promise = 19, value = "till one changes nothing")
    static void fitTillNothingChanges() {
        Edges.same(PAIR + "; pick(0, 0, 0, 49, 49); fit(1)", PAIR + "; pick(0, 0, 0, 49, 49); fit(10)");
        Edges.same(DRIFT + "; fit(10); fit(10); fit(5)", DRIFT + "; fit(10); fit(10); fit(10)");
        Edges.same(DRIFT + "; fit(10); fit(10); fit(5)", DRIFT + "; fit(10); fit(10); fit(10); fit(10)");
    }

    @Says(promise = 19, value = "OUTSIDE")
    static void fitBy0Or11() {
        for (String bad : new String[] {"0", "11", "-1", "MIN", "MAX"}) {
            Edges.refuse(SOME, "fit(" + bad + ")", OUTSIDE);
            Edges.refuse(DRIFT, "fit(" + bad + ")", OUTSIDE);
            Edges.refuse("", "fit(" + bad + ")", OUTSIDE);
        }
    }

    @Says(promise = 19, value = "of several it stays, if it is one of these, else the least")
    static void fitOfSeveral() {
        String rows = PAIR + "; pick(0, 0, 0, 30, 50); ";
        Edges.life(rows + "slow(0, 15); fit(1)=0; at(0, 1)=15");
        Edges.life(rows + "slow(0, 20); fit(1)=0; at(0, 1)=20");
        Edges.life(rows + "slow(0, 25); fit(1)=0; at(0, 1)=25");
        Edges.life(rows + "slow(0, 14); fit(1)=0; at(0, 1)=15");
        Edges.life(rows + "slow(0, 26); fit(1)=0; at(0, 1)=15");
        // 24 and 25 are off by one each.
        Edges.life(PAIR + "; pick(0, 0, 0, 49, 49); slow(0, 26); fit(1)=1; at(0, 1)=24; slow(0, 25); fit(1)=1; at(0, 1)=25; slow(0, 24); fit(1)=1; at(0, 1)=24");
    }

    @Says(promise = 19, value = "SLOW that makes MISFIT least (all others as they are then)")
    static void fitUpTo60AndDownTo1() {
        Edges.life(PAIR + "; pick(0, 0, 0, 120, 120); fit(1)=0; at(0, 1)=60; tell(0, 119, 119); fit(1)=1; at(0, 1)=60; tell(0, 2, 2); fit(1)=0; at(0, 1)=1");
        Edges.life(PAIR + "; pick(0, 0, 0, 121, 3000); fit(1)=1; at(0, 1)=60; tell(0, 0, 1); fit(1)=1; at(0, 1)=1; tell(0, 0, 0); fit(1)=2; at(0, 1)=1");
        // By kind 1 and 17: 30 is 51, 29 is 49, 59 is 100, 60 is 102.
        Edges.life(PAIR + "; pick(0, 0, 1, 101, 102); fit(1)=0; at(0, 1)=30; tell(0, 99, 101); fit(1)=1; at(0, 1)=30; slow(0, 1); fit(1)=1; at(0, 1)=29;"
            + "tell(0, 203, 300); fit(1)=0; at(0, 1)=60; tell(0, 198, 201); fit(1)=0; at(0, 1)=59");
    }

    @Says(promise = 19, value = {"SLOW that makes MISFIT least (all others as they are then)", "TIME from a CELL to another one: the least of all WAYS (0 to itself)"})
    static void fitWhereTheWayBends() {
        // The wall, cells 1 and 4, is block 0: through it the time is 20 + 2 v, around it 120, so it grows up to 50 only.
        String wall = "ground(3, 3); split(0, 493); ear(2); shake(0, 0); ";
        Edges.life(wall + "pick(0, 0, 0, 118, 118); fit(1)=0; at(1, 1)=49; tell(0, 120, 120); fit(1)=0; at(1, 1)=50; slow(0, 60); fit(1)=0; at(1, 1)=60; tell(0, 24, 24); fit(1)=0; at(1, 1)=2");
        Edges.life(wall + "slow(0, 55); pick(0, 0, 0, 119, 119); fit(1)=1; at(1, 1)=55; slow(0, 48); fit(1)=1; at(1, 1)=49; at(0, 1)=10; tell(0, 22, 22); fit(1)=0; at(1, 1)=1");
        // Beyond 120 the wall comes to 50 and the others must grow: 122 is 22 and 100.
        Edges.life(wall + "pick(0, 0, 0, 121, 130); fit(1)=0; at(1, 1)=50; at(0, 1)=11; of(0, 0)=122");
        // By kind 1 the others are 17: through 34 + 2 (17 v / 10), around 204; 49 is 83, 50 is 85. From 40 it comes to
        // 49, as near as 50, and then the others of 11, that are 18, make 36 and 166.
        Edges.life(wall + "pick(0, 0, 1, 200, 200); fit(1)=0; at(1, 1)=49; tell(0, 204, 204); fit(1)=0; at(1, 1)=50; slow(0, 57); fit(1)=0; at(1, 1)=57; tell(0, 202, 202); fit(1)=2; at(1, 1)=57; slow(0, 40); fit(1)=0; at(1, 1)=49; at(0, 1)=11");
        // One ear hears through the wall, the other one from within it: 20 + 2 v and 10 + v, up to 120 and 70.
        Edges.life(wall + "ear(1); pick(0, 0, 0, 100, 100); pick(1, 0, 0, 50, 50); fit(1)=0; at(1, 1)=40; tell(0, 110, 110); fit(1)=5; at(1, 1)=45; tell(1, 70, 70); tell(0, 120, 120); fit(1)=0; at(1, 1)=60");
    }

    @Says(promise = 19, value = {"A SWEEP: for each BLOCK IN USE, one after the other", "(all others as they are then)"})
    static void fitOneBlockAfterTheOther() {
        Edges.life(SUM + "; slow(5, 3); pick(0, 0, 0, 50, 50); fit(1)=0; at(0, 1)=40; at(1, 1)=10; slow(5, 3)=3");
        Edges.life(SUM + "; pick(0, 0, 0, 80, 80); fit(1)=0; at(0, 1)=60; at(1, 1)=20");
        // Block 0 is not in use: block 1 goes first, then 7, and what is not in use stays.
        String two = PAIR + "; join(1, 0); split(1, 2); join(7, 0); slow(0, 33); slow(3, 44); slow(1, 10); slow(7, 10)";
        Edges.life(two).tell("count(1)=2; at(0, 0)=1; at(1, 0)=7; pick(0, 0, 0, 80, 80); fit(1)=0; at(0, 1)=60; at(1, 1)=20; slow(0, 1)=33; slow(3, 1)=44");
    }

    @Says(promise = 19, value = "for each BLOCK IN USE")
    static void fitNothing() {
        Edges.life("fit(1)=0; fit(10)=0; at(0, 1)=10");
        Edges.same("", "fit(10)");
        Edges.same(PAIR, PAIR + "; fit(1)");
        // The ear is where the shake is: no slow makes it better, so all stays.
        Edges.life("ground(2, 2); ear(0); shake(0, 5); slow(0, 23); pick(0, 0, 0, 100, 110); fit(10)=95; at(0, 1)=23");
    }

    @Says(promise = 19, value = "FORETOLD for a PICK: BEGUN of its SHAKE, TIME from there to its EAR by its KIND, and CLOCK")
    static void fitByBegunAndClock() {
        Edges.life(PAIR + "; put(0, 0, 100); clock(0, -30); pick(0, 0, 0, 110, 111); fit(1)=0; at(0, 1)=20; clock(0, 99); fit(1)=90; at(0, 1)=1");
    }

    @Says(promise = 19, value = "AS OF a DAY it has that of its last telling by then, if there is any")
    static void fitAsOfTheDay() {
        Edges.life(PAIR + "; pick(0, 0, 0, 40, 40); days(1); tell(0, 60, 60); fit(1)=0; at(0, 1)=30; misfit(0, 0)=20");
    }

    // ---- 20

    @Says(promise = 20, value = {"SPAN of a BLOCK: least (what 0), greatest (1)", "each SLOW is from 1 to 60 at first"})
    static void spanWithoutPicks() {
        for (int b = 0; b < 8; b++) Edges.life(SUM + "; span(" + b + ", 0)=1; span(" + b + ", 1)=60");
        Edges.life("slow(0, 33); span(0, 0)=1; span(0, 1)=60");
        Edges.onlyAsks(SOME, "span(0, 0)");
        Edges.onlyAsks(SOME, "span(1, 1)");
    }

    @Says(promise = 20, value = "its greatest SLOW becomes, if that is less, the greatest with which, all other BLOCKS at their least, the sum is not above")
    static void spanGreatest() {
        Life x = Edges.life(SUM + "; pick(0, 0, 0, 0, 3000); span(0, 1)=60; tell(0, 0, 62); span(0, 1)=60; tell(0, 0, 61); span(0, 1)=60; span(1, 1)=60");
        x.tell("tell(0, 0, 60); span(0, 1)=59; span(1, 1)=59; span(0, 0)=1; tell(0, 0, 3); span(0, 1)=2; span(1, 1)=2; tell(0, 0, 2); span(0, 1)=1; span(1, 1)=1");
        // Three rays of block 0 and one of block 1: it is cut down.
        Edges.life(SUM + "; put(0, 2, 0); pick(0, 0, 0, 0, 31); span(0, 1)=10; tell(0, 0, 30); span(0, 1)=9; span(1, 1)=27; tell(0, 0, 4); span(0, 1)=1");
    }

    @Says(promise = 20, value = "its least, if that is more, the least with which, all others at their greatest, it is not below")
    static void spanLeast() {
        Life x = Edges.life(SUM + "; pick(0, 0, 0, 60, 3000); span(0, 0)=1; tell(0, 61, 3000); span(0, 0)=1; tell(0, 62, 3000); span(0, 0)=2; span(1, 0)=2; span(0, 1)=60");
        x.tell("tell(0, 119, 3000); span(0, 0)=59; span(1, 0)=59; tell(0, 120, 3000); span(0, 0)=60; span(1, 0)=60; span(1, 1)=60");
        // Three rays of block 0 and one of block 1: it is cut up.
        Edges.life(SUM + "; put(0, 2, 0); pick(0, 0, 0, 90, 3000); span(0, 0)=10; tell(0, 91, 3000); span(0, 0)=11; span(1, 0)=1; tell(0, 181, 3000); span(1, 0)=1; tell(0, 182, 3000); span(1, 0)=2");
    }

    @Says(promise = 20, value = {"NONE: the PICKS QUARREL", "or a BLOCK has a least above its greatest: then the PICKS QUARREL"})
    static void spanOfOneOrNone() {
        Life x = Edges.life(PAIR + "; pick(0, 0, 0, 20, 21); span(0, 0)=10; span(0, 1)=10; tell(0, 21, 22); span(0, 0)=11; span(0, 1)=11; tell(0, 21, 21); span(0, 0)=NONE; span(0, 1)=NONE");
        x.tell("tell(0, 2, 2); span(0, 1)=1; tell(0, 1, 1); span(0, 1)=NONE; tell(0, 0, 1); span(0, 0)=NONE; tell(0, 120, 120); span(0, 0)=60; tell(0, 121, 121); span(0, 0)=NONE");
        for (int b = 0; b < 8; b++) x.tell("span(" + b + ", 0)=NONE; span(" + b + ", 1)=NONE");
        Edges.life(SUM + "; pick(0, 0, 0, 121, 3000); span(0, 0)=NONE; tell(0, 0, 1); span(1, 1)=NONE");
        Edges.life(PAIR + "; pick(0, 0, 0, 20, 30); pick(0, 0, 0, 30, 40); span(0, 0)=15; span(0, 1)=15; tell(1, 31, 40); span(0, 0)=NONE");
    }

    @Says(promise = 20, value = {"The spans of BLOCKS, by PICKS of KIND 0", "a PICK lets the sum of RAYS times SLOWS be from lo to hi, each less BEGUN and CLOCK"})
    static void spanLessBegunAndClock() {
        Edges.life(PAIR + "; put(0, 0, 20); clock(0, 5); pick(0, 0, 0, 45, 55); span(0, 0)=10; span(0, 1)=15; clock(0, -5); span(0, 0)=15; span(0, 1)=20; put(0, 0, 0); span(0, 0)=25; span(0, 1)=30");
        Edges.life(PAIR + "; put(0, 0, 1000); pick(0, 0, 0, 0, 1002); span(0, 0)=1; span(0, 1)=1; tell(0, 0, 1001); span(0, 0)=NONE");
        Edges.life(PAIR + "; pick(0, 0, 1, 0, 0); span(0, 0)=1; span(0, 1)=60; quarrel()=0");
    }

    @Says(promise = 20, value = {"along THE WAYS as they are now", "RAY: how many steps of it begin or end in CELLS of a BLOCK (a step within one counts twice)"})
    static void spanAlongTheWayAsItIs() {
        // Two rays of each block through cell 1, twelve of block 0 around.
        String wall = "ground(3, 3); split(0, 2); split(0, 16); slow(2, 60); ear(2); shake(0, 0); pick(0, 0, 0, 10, 20)";
        Edges.life(wall).tell("slow(1, 50); span(0, 1)=9; span(1, 1)=9; slow(1, 51); span(0, 1)=1; span(1, 1)=60; span(2, 1)=60");
        Edges.life(SUM + "; pick(0, 0, 0, 0, 20); span(0, 1)=19; join(0, 1); span(0, 1)=10; span(1, 1)=60");
    }

    @Says(promise = 20, value = {"PRESSED: for each such PICK, from 0 on, for each BLOCK with a RAY of it, from 0 on", "again and again, till nothing changes", "SPAN of a BLOCK: its least and greatest then"})
    static void spanAgainAndAgain() {
        // The sum goes first and cannot tell them apart; the later pick makes block 0 30, so the sum makes block 1 20.
        Edges.life(THREE + "; pick(0, 0, 0, 50, 50); span(1, 0)=1; span(1, 1)=49; pick(1, 0, 0, 60, 60); span(0, 0)=30; span(0, 1)=30; span(1, 0)=20; span(1, 1)=20");
        Edges.life(THREE + "; pick(0, 0, 0, 50, 52); pick(1, 0, 0, 60, 64); pick(0, 1, 0, 40, 42); span(0, 0)=30; span(0, 1)=32; span(1, 0)=20; span(1, 1)=21");
        Edges.life(THREE + "; pick(0, 0, 0, 50, 50); pick(1, 0, 0, 60, 60); pick(0, 1, 0, 42, 42); span(0, 0)=NONE");
        // Only a greatest, or only a least, is pressed by the later pick.
        Edges.life(THREE + "; pick(0, 0, 0, 61, 3000); pick(1, 0, 0, 0, 60); span(0, 0)=1; span(0, 1)=30; span(1, 0)=31; span(1, 1)=60");
        Edges.life(THREE + "; pick(0, 0, 0, 0, 61); pick(1, 0, 0, 62, 3000); span(0, 0)=31; span(0, 1)=60; span(1, 0)=1; span(1, 1)=30");
        // No ray: the ear is where the shake is, and nothing is pressed.
        Edges.life("ground(2, 2); ear(0); shake(0, 900); pick(0, 0, 0, 0, 0); span(0, 0)=1; span(0, 1)=60; tell(0, 3000, 3000); span(0, 0)=1; quarrel()=0");
    }

    /**
     * Four by two cells, each a block, in a ring 0 1 2 3 7 6 5 4. By turns two neighbours are 61 at least and 61 at most,
     * but 4 and 0 only 60: all eight are 244 at least and 243 at most, which shows only after each has been pressed by 1
     * again and again, for more than a hundred rounds.
     */
    private static final String RING = "ground(4, 2); split(0, 2); split(0, 4); split(0, 8); split(0, 16); split(0, 32); split(0, 64); split(0, 128);"
        + "ear(1); ear(3); ear(6); ear(4); shake(0, 0); shake(2, 0); shake(7, 0); shake(5, 0);"
        + "pick(0, 0, 0, 61, 3000); pick(1, 1, 0, 61, 3000); pick(2, 2, 0, 61, 3000); pick(3, 3, 0, 61, 3000);"
        + "pick(0, 1, 0, 0, 61); pick(1, 2, 0, 0, 61); pick(2, 3, 0, 0, 61); pick(3, 0, 0, 0, 60)";

    @Says(promise = 20, value = "again and again, till nothing changes, or a BLOCK has a least above its greatest: then the PICKS QUARREL")
    static void spanAfterManyRounds() {
        Edges.life(RING).tell("count(1)=8; span(0, 0)=NONE; span(7, 1)=NONE; quarrel()=255");
        Edges.life(RING + "; tell(7, 0, 61)=9; quarrel()=0; span(0, 0)=1; span(0, 1)=60; span(7, 0)=1; span(7, 1)=60");
    }

    @Says(promise = 20, value = {"again and again, till nothing changes", "SPAN of a BLOCK: its least and greatest then"})
    static void spanRoundTheRing() {
        // 0 and 1 are 62 at least, so 1 is 2 at least, 2 is 59 at most, 3 is 2 at least, and so on by 7, 6, 5 to 4.
        Edges.life(RING + "; tell(0, 62, 3000); tell(7, 0, 62); span(0, 0)=2; span(0, 1)=60; span(1, 0)=2; span(1, 1)=60; span(2, 0)=1; span(2, 1)=59; span(3, 0)=2; span(3, 1)=60;"
            + "span(7, 0)=1; span(7, 1)=59; span(6, 0)=2; span(6, 1)=60; span(5, 0)=1; span(5, 1)=59; span(4, 0)=2; span(4, 1)=60; quarrel()=0");
    }

    /**
     * All else being slow, two ways from cell 1 to cell 13 take 136: by 0 4 8 12 (block 1), which comes first from cell
     * 1, and by 5 9 (block 2), which comes first from cell 13.
     */
    private static final String TWO_WAYS = "ground(4, 4); split(0, 4369); split(0, 544); slow(0, 60); slow(1, 2); slow(2, 4)";

    @Says(promise = 20, value = {"along THE WAYS as they are now", "FORETOLD for a PICK: BEGUN of its SHAKE, TIME from there to its EAR by its KIND, and CLOCK"})
    static void spanAlongTheWayFromTheShake() {
        Edges.life(TWO_WAYS).tell("time(1, 13, 0)=136; time(13, 1, 0)=136; way(1, 13, 0, 1)=0; way(1, 13, 0, 5)=13; way(13, 1, 0, 1)=9; way(13, 1, 0, 3)=1; way(13, 1, 0, 4)=NONE");
        Edges.life(TWO_WAYS + "; ear(13); shake(1, 0); pick(0, 0, 0, 0, 20); of(0, 4)=6; span(0, 1)=6; span(1, 1)=2; span(2, 1)=60; resolved(0)=1; resolved(1)=1; resolved(2)=0");
        Edges.life(TWO_WAYS + "; ear(1); shake(13, 0); pick(0, 0, 0, 0, 20); of(0, 4)=4; span(0, 1)=8; span(1, 1)=60; span(2, 1)=4; resolved(0)=1; resolved(1)=0; resolved(2)=1");
    }

    @Says(promise = 20, value = "The spans of BLOCKS, by PICKS of KIND 0 along THE WAYS as they are now")
    static void spanAlongTheWayOfKind0() {
        // From 0 to 2 it goes through cell 1 by kind 0, around by kind 1, where 4 becomes 7 and 1 stays 1.
        String wall = "ground(3, 3); ratio(19); split(0, 18); split(1, 16); slow(2, 60); slow(0, 1); slow(1, 4); ear(2); shake(0, 0)";
        Edges.life(wall).tell("pick(0, 0, 0, 0, 20); span(0, 1)=9; span(1, 1)=9; resolved(0)=1; resolved(1)=1; rank()=1");
        Edges.life(wall).tell("best(0)=3; best(1)=1; ratio(10); best(0)=3");
    }

    @Says(promise = 20, value = "UNKNOWN")
    static void spanOfNoBlock() {
        for (String bad : new String[] {"8", "-1", "MIN", "MAX"}) Edges.refuse(SOME, "span(" + bad + ", 0)", UNKNOWN);
        Edges.refuse(SUM + "; pick(0, 0, 0, 0, 0)", "span(8, 0)", UNKNOWN);
    }

    @Says(promise = 20, value = "OUTSIDE")
    static void spanOfNoWhat() {
        for (String bad : new String[] {"2", "-1", "MIN", "MAX"}) {
            Edges.refuse(SOME, "span(0, " + bad + ")", OUTSIDE);
            Edges.refuse(SUM + "; pick(0, 0, 0, 0, 0)", "span(7, " + bad + ")", OUTSIDE);
        }
    }

    @Says(promise = 20, value = "UNKNOWN; OUTSIDE")
    static void spanOfNoBlockAndNoWhat() {
        for (String bad : new String[] {"8, 2", "-1, -1", "8, -1", "MAX, MIN"}) Edges.refuse(SOME, "span(" + bad + ")", UNKNOWN);
    }

    // ---- 21

    @Says(promise = 21, value = {"LEAST QUARREL, by bits of PICKS", "0: none"})
    static void quarrelOfNone() {
        Edges.life("quarrel()=0");
        Edges.life(PAIR + "; quarrel()=0; pick(0, 0, 1, 3000, 3000); quarrel()=0; pick(0, 0, 0, 2, 120); quarrel()=0; pick(0, 0, 0, 120, 120); quarrel()=0; tell(1, 2, 119); quarrel()=6");
        Edges.onlyAsks(SOME, "quarrel()");
    }

    @Says(promise = 21, value = {"LEAST QUARREL: the fewest PICKS of KIND 0 that QUARREL alone", "of several the least number by bits"})
    static void quarrelOfOne() {
        String eleven = PAIR + times(11, "pick(0, 0, 0, 0, 3000)");
        Edges.life(eleven).tell("quarrel()=0; pick(0, 0, 0, 21, 21)=11; quarrel()=2048; tell(10, 0, 1); quarrel()=1024; tell(0, 121, 122); quarrel()=1");
        Edges.life(PAIR + times(12, "pick(0, 0, 0, 0, 1)") + "; quarrel()=1");
        Edges.life(PAIR + times(5, "pick(0, 0, 1, 0, 1)") + "; pick(0, 0, 0, 0, 1); quarrel()=32");
    }

    @Says(promise = 21, value = {"the fewest PICKS of KIND 0 that QUARREL alone", "of several the least number by bits"})
    static void quarrelOfTwoOrThree() {
        // Twice block 0 is 20, twice block 1 is 20, both together 30: any two agree.
        String three = THREE + "; pick(1, 0, 0, 20, 20); pick(0, 1, 0, 20, 20); pick(0, 0, 0, 30, 30)";
        Edges.life(three).tell("quarrel()=7; pick(1, 0, 0, 20, 20); quarrel()=7; tell(0, 0, 3000); quarrel()=14");
        // Two are fewer, though their number is greater; of two pairs the one of the lesser number.
        Edges.life(three).tell("pick(1, 0, 0, 22, 22); quarrel()=9; pick(0, 1, 0, 22, 22); quarrel()=9; tell(3, 20, 22); quarrel()=18; tell(0, 22, 22); quarrel()=18; tell(0, 24, 24); quarrel()=9");
        // One is fewer still.
        Edges.life(three).tell("pick(1, 0, 0, 22, 22); pick(0, 1, 0, 21, 21); quarrel()=16");
        // The pairs 3 and 4, 2 and 5: 24 is less than 36.
        Edges.life(PAIR + times(3, "pick(0, 0, 0, 0, 3000)") + "; pick(0, 0, 0, 20, 20); pick(0, 0, 0, 22, 24); tell(2, 20, 30); pick(0, 0, 0, 32, 3000); tell(3, 20, 40); tell(4, 42, 60); quarrel()=20; tell(2, 0, 3000); quarrel()=24");
    }

    @Says(promise = 21, value = "the fewest PICKS of KIND 0 that QUARREL alone")
    static void quarrelAsNowTold() {
        Edges.life(PAIR + "; pick(0, 0, 0, 20, 20); pick(0, 0, 0, 22, 22); quarrel()=3; days(1); tell(0, 22, 23); quarrel()=0; clock(0, 1); quarrel()=2; clock(0, 2); quarrel()=0");
    }

    // ---- 22

    /** Blocks of two cells each, two by four blocks. Eight picks, each of which brings a new row. */
    private static final String PAIRS = pairsOfCells();
    private static final String[] EIGHT = {"pick(0, 0, 0, 0, 3000)", "pick(1, 1, 0, 0, 3000)", "pick(2, 2, 0, 0, 3000)", "pick(3, 0, 0, 0, 3000)",
        "pick(4, 1, 0, 0, 3000)", "pick(5, 2, 0, 0, 3000)", "pick(2, 3, 0, 0, 3000)", "pick(5, 4, 0, 0, 3000)"};

    private static String pairsOfCells() {
        StringBuilder rows = new StringBuilder("ground(4, 4)");
        for (int b = 1; b < 8; b++) rows.append("; split(0, ").append(3 << 2 * b).append(")");
        for (int cell : new int[] {1, 5, 9, 2, 6, 10}) rows.append("; ear(").append(cell).append(")");
        for (int cell : new int[] {0, 4, 8, 12, 14}) rows.append("; shake(").append(cell).append(", 0)");
        return rows.toString();
    }

    @Says(promise = 22, value = {"RANK", "RANK of rows of RAYS (one for each PICK of KIND 0): that by numbers modulo 2147483647"})
    static void rankFrom0To8() {
        Life x = Edges.life(PAIRS + "; rank()=0");
        for (int i = 0; i < 8; i++) x.tell(EIGHT[i] + "=" + i + "; rank()=" + (i + 1));
        x.tell("pick(0, 4, 0, 0, 3000)=8; rank()=8; pick(3, 3, 0, 0, 3000)=9; pick(4, 4, 0, 0, 3000)=10; pick(5, 3, 0, 0, 3000)=11; rank()=8");
        Edges.onlyAsks(SOME, "rank()");
    }

    @Says(promise = 22, value = "(one for each PICK of KIND 0)")
    static void rankOfNoNewRow() {
        Edges.life("rank()=0");
        Edges.life(SUM + "; rank()=0; pick(0, 0, 1, 0, 0); rank()=0; pick(0, 0, 0, 0, 0); rank()=1; pick(0, 0, 0, 5, 9); rank()=1; shake(1, 0); pick(0, 1, 0, 0, 0); rank()=1");
        // A row that is twice another one is no new one, one of other shares is.
        Edges.life("ground(2, 3); ear(0); shake(2, 0); shake(4, 0); pick(0, 0, 0, 0, 0); rank()=1; pick(0, 1, 0, 0, 0); rank()=1; split(0, 16); rank()=2");
        // Block 0 alone twice; then the sum as well; then the sum and twice a block, which is no new one.
        Edges.life(THREE + "; pick(1, 0, 0, 0, 0); rank()=1; pick(0, 0, 0, 0, 0); rank()=2; pick(0, 1, 0, 0, 0); rank()=2");
    }

    // ---- 23

    @Says(promise = 23, value = {"Of a BLOCK: 2 RESOLVED, 0 HIDDEN, 1 neither", "RESOLVED is a BLOCK, if a row with 1 there, else 0, makes RANK no greater", "HIDDEN: no PICK of KIND 0 has a RAY there"})
    static void resolvedHiddenOrNeither() {
        Edges.life("resolved(0)=0");
        Edges.life(SUM + "; resolved(0)=0; resolved(1)=0; pick(0, 0, 1, 0, 0); resolved(0)=0; pick(0, 0, 0, 0, 0); resolved(0)=1; resolved(1)=1;"
            + "ear(2); pick(1, 0, 0, 0, 0); resolved(0)=2; resolved(1)=2; split(0, 8); resolved(2)=0; resolved(0)=2");
        Edges.life(PAIR + "; pick(0, 0, 0, 0, 0); resolved(0)=2; put(0, 1, 0); resolved(0)=0");
        Edges.onlyAsks(SOME, "resolved(0)");
    }

    @Says(promise = 23, value = "RESOLVED is a BLOCK, if a row with 1 there, else 0, makes RANK no greater")
    static void resolvedAllEight() {
        Life x = Edges.life(PAIRS);
        for (String pick : EIGHT) x.tell(pick);
        for (int b = 0; b < 8; b++) x.tell("resolved(" + b + ")=2");
        Life y = Edges.life(PAIRS).tell(EIGHT[3] + ";" + EIGHT[4] + ";" + EIGHT[6]);
        y.tell("resolved(0)=1; resolved(1)=1; resolved(2)=1; resolved(3)=1; resolved(4)=1; resolved(5)=0; resolved(6)=1; resolved(7)=0");
        y.tell(EIGHT[0]).tell("resolved(0)=2; resolved(1)=2; resolved(2)=1; resolved(4)=1").tell(EIGHT[2]).tell("resolved(4)=2; resolved(6)=2; resolved(3)=1");
    }

    @Says(promise = 23, value = "NONE: it is not IN USE")
    static void resolvedNotInUse() {
        for (int b = 1; b < 8; b++) Edges.refuse("", "resolved(" + b + ")", NONE);
        Edges.life(SUM + "; pick(0, 0, 0, 0, 0); resolved(2)=NONE; resolved(7)=NONE; join(7, 0); resolved(0)=NONE; resolved(7)=1; join(7, 1); resolved(1)=NONE; resolved(7)=2");
    }

    @Says(promise = 23, value = "UNKNOWN")
    static void resolvedOfNoBlock() {
        for (String bad : new String[] {"8", "-1", "MIN", "MAX"}) {
            Edges.refuse("", "resolved(" + bad + ")", UNKNOWN);
            Edges.refuse(ALL, "resolved(" + bad + ")", UNKNOWN);
        }
    }

    // ---- 24

    @Says(promise = 24, value = {"BEST EAR: the CELL (what 0), how many BLOCKS are RESOLVED then (1)",
        "BEST EAR: the CELL in which an EAR more, that picks all SHAKES by KIND 0, makes most BLOCKS RESOLVED"})
    static void bestEar() {
        Edges.life("ground(2, 2); shake(0, 0); best(0)=1; best(1)=1; put(0, 3, 0); best(0)=0; best(1)=1");
        // From cell 1, alone in block 1, each way shows both blocks, so none is resolved by one alone.
        Edges.life("ground(2, 2); split(0, 2); shake(1, 0); best(1)=0; best(0)=0; shake(2, 0); best(1)=2; best(0)=0; put(1, 0, 0); best(1)=2; best(0)=2");
        // With picks there are: the way to cell 2 is of block 0, and the pick then tells block 1.
        Edges.life(SUM + "; best(1)=1; best(0)=2; pick(0, 0, 0, 0, 0); best(1)=2; best(0)=2; pick(0, 0, 1, 0, 0); best(1)=2");
        Edges.onlyAsks(SOME, "best(0)");
        Edges.onlyAsks(ALL, "best(1)");
    }

    @Says(promise = 24, value = "makes most BLOCKS RESOLVED; of several the least")
    static void bestOfSeveral() {
        Life x = Edges.life(PAIRS);
        for (String pick : EIGHT) x.tell(pick);
        x.tell("best(1)=8; best(0)=0");
        // Cells 0 and 1 are block 1: from cell 1 only the way to 0 is within one block, from cell 2 only that to 3.
        Edges.life("ground(2, 2); split(0, 3); shake(1, 0); best(0)=0; best(1)=1; put(0, 2, 0); best(0)=3; best(1)=1");
        // Each way from cell 3, alone in block 1, shows both; with a shake in 2 as well, cells 0 and 1 resolve both.
        Edges.life("ground(2, 2); split(0, 8); shake(3, 0); best(0)=0; best(1)=0; shake(2, 0); best(0)=0; best(1)=2");
    }

    @Says(promise = 24, value = "that picks all SHAKES by KIND 0")
    static void bestByTheWayFromTheShake() {
        // The way from 13 to cell 1 shows block 2; were it that from 1 to 13, it and that from 0 would resolve two there.
        Edges.life(TWO_WAYS + "; shake(0, 0); shake(13, 0); best(0)=4; best(1)=2");
    }

    @Says(promise = 24, value = "NOT: there are no SHAKES")
    static void bestWithoutShakes() {
        for (int what = 0; what < 2; what++) {
            Edges.refuse("", "best(" + what + ")", NOT);
            Edges.refuse("ear(0); ear(3)", "best(" + what + ")", NOT);
            Edges.refuse(ALL + "; ground(2, 2)", "best(" + what + ")", NOT);
        }
    }

    @Says(promise = 24, value = "OUTSIDE")
    static void bestOfNoWhat() {
        for (String bad : new String[] {"-1", "2", "MIN", "MAX"}) Edges.refuse(SOME, "best(" + bad + ")", OUTSIDE);
    }

    @Says(promise = 24, value = "OUTSIDE; NOT: there are no SHAKES")
    static void bestOfNoWhatWithoutShakes() {
        for (String bad : new String[] {"-1", "2", "MIN", "MAX"}) Edges.refuse("", "best(" + bad + ")", OUTSIDE);
    }

    @Says(promise = 24, value = "an EAR more")
    static void bestWithSixEars() {
        Edges.life("ground(2, 2)" + times(6, "ear(0)") + "; shake(0, 0); best(0)=1; best(1)=1; count(2)=6");
    }

    // ---- 25

    @Says(promise = 25, value = {"HEAP of a SHAKE in a CELL: how many (what 0), the least BEGUN (1)", "HEAP of a SHAKE in a CELL: the most of its PICKS that one number BEGUN (0 .. 1000) makes FIT, if it was there"})
    static void heapOfBegun0And1000() {
        Life x = Edges.life(PAIR + "; pick(0, 0, 0, 0, 20); heap(0, 0, 0)=1; heap(0, 0, 1)=0; tell(0, 0, 19); heap(0, 0, 0)=0; heap(0, 0, 1)=0; tell(0, 20, 20); heap(0, 0, 0)=1; heap(0, 0, 1)=0");
        x.tell("tell(0, 21, 30); heap(0, 0, 0)=1; heap(0, 0, 1)=1; tell(0, 1020, 1020); heap(0, 0, 0)=1; heap(0, 0, 1)=1000; tell(0, 1021, 1021); heap(0, 0, 0)=0; heap(0, 0, 1)=0");
        x.tell("tell(0, 1019, 3000); heap(0, 0, 1)=999; tell(0, 1021, 3000); heap(0, 0, 0)=0; clock(0, 1); heap(0, 0, 0)=1; heap(0, 0, 1)=1000; clock(0, -1); heap(0, 0, 0)=0");
        x.tell("tell(0, 0, 19); clock(0, 0); heap(0, 0, 0)=0; clock(0, -1); heap(0, 0, 0)=1; heap(0, 0, 1)=0");
    }

    @Says(promise = 25, value = "the least such number")
    static void heapOfTheLeastNumber() {
        Life x = Edges.life(PAIR + "; pick(0, 0, 0, 100, 110); pick(0, 0, 0, 50, 60); heap(0, 0, 0)=1; heap(0, 0, 1)=30; tell(1, 110, 120); heap(0, 0, 0)=2; heap(0, 0, 1)=90");
        x.tell("tell(1, 111, 120); heap(0, 0, 0)=1; heap(0, 0, 1)=80; pick(0, 0, 1, 200, 200); heap(0, 0, 1)=80; tell(2, 125, 130); heap(0, 0, 0)=2; heap(0, 0, 1)=91");
        x.tell("tell(0, 0, 3000); heap(0, 0, 0)=3; heap(0, 0, 1)=91");
        Edges.life(PAIR + times(12, "pick(0, 0, 0, 70, 75)") + "; heap(0, 0, 0)=12; heap(0, 0, 1)=50");
    }

    @Says(promise = 25, value = {"the most of its PICKS", "if it was there"})
    static void heapInAnotherCell() {
        Life x = Edges.life(PAIR + "; heap(0, 0, 0)=0; heap(0, 3, 1)=0; shake(3, 7); pick(0, 1, 0, 100, 100); heap(0, 0, 0)=0; heap(1, 3, 0)=1; heap(1, 3, 1)=80");
        x.tell("heap(1, 1, 1)=100; heap(1, 2, 1)=60; heap(1, 0, 1)=80; of(0, 0)=27");
        for (int c = 0; c < 4; c++) Edges.onlyAsks(SUM + "; pick(0, 0, 0, 30, 40)", "heap(0, " + c + ", 1)");
    }

    @Says(promise = 25, value = "UNKNOWN")
    static void heapOfNoShakeOrNoCell() {
        for (String bad : new String[] {"-1", "2", "MIN", "MAX"}) Edges.refuse(SOME, "heap(" + bad + ", 0, 0)", UNKNOWN);
        for (String bad : new String[] {"-1", "9", "MIN", "MAX"}) Edges.refuse(SOME, "heap(1, " + bad + ", 1)", UNKNOWN);
        Edges.refuse("", "heap(0, 0, 0)", UNKNOWN);
        Edges.refuse(ALL, "heap(4, 16, 0)", UNKNOWN);
        Edges.refuse(ALL, "heap(5, 15, 0)", UNKNOWN);
    }

    @Says(promise = 25, value = "OUTSIDE")
    static void heapOfNoWhat() {
        for (String bad : new String[] {"-1", "2", "MIN", "MAX"}) Edges.refuse(SOME, "heap(1, 8, " + bad + ")", OUTSIDE);
    }

    @Says(promise = 25, value = "UNKNOWN; OUTSIDE")
    static void heapOfTwoFaultsAtOnce() {
        for (String bad : new String[] {"2, 0, 2", "0, 9, -1", "-1, -1, 2", "MAX, 0, MAX"}) Edges.refuse(SOME, "heap(" + bad + ")", UNKNOWN);
    }

    // ---- 26

    @Says(promise = 26, value = {"A SHAKE is MOVED: the CELL", "MOVED: the CELL with the greatest HEAP", "BEGUN is that of the HEAP"})
    static void moveToTheGreatestHeap() {
        Edges.life("ground(2, 2); ear(1); ear(2); shake(0, 500); shake(3, 500); pick(0, 0, 0, 100, 100); pick(1, 0, 0, 140, 140); pick(0, 1, 0, 520, 520);"
            + "move(0)=1; of(0, 0)=100; of(1, 0)=140; of(0, 4)=1; misfit(0, 1)=3; of(2, 0)=520");
        // The last cell of sixteen: 100 there, 120 in both beside it.
        Edges.life("ground(4, 4); ear(15); ear(14); ear(11); shake(0, 0); pick(0, 0, 0, 100, 100); pick(1, 0, 0, 120, 120); pick(2, 0, 0, 120, 120);"
            + "move(0)=15; of(0, 0)=100; of(0, 4)=1; of(1, 0)=120; misfit(0, 0)=0");
        Edges.life(PAIR + "; pick(0, 0, 0, 1020, 3000); pick(0, 0, 0, 0, 1020); move(0)=0; of(0, 0)=1020; clock(0, 1); of(0, 0)=1021");
    }

    @Says(promise = 26, value = "of several the least")
    static void moveToTheLeastOfSeveral() {
        Edges.life("ground(2, 2); ear(1); ear(2); shake(3, 500); pick(0, 0, 0, 100, 100); pick(1, 0, 0, 100, 100); move(0)=0; of(0, 0)=100; of(1, 4)=2");
        Edges.life("ground(2, 2); ear(1); shake(3, 500); pick(0, 0, 0, 3000, 3000); move(0)=0; of(0, 0)=20; of(0, 4)=2");
        // 19 is too early for any cell but that of the ear itself.
        Edges.life("ground(2, 2); ear(1); shake(3, 500); pick(0, 0, 0, 0, 19); move(0)=1; of(0, 0)=0; tell(0, 0, 20); move(0)=0; of(0, 0)=20");
    }

    @Says(promise = 26, value = "NOT: it has no PICKS")
    static void moveWithoutPicks() {
        Edges.refuse(PAIR, "move(0)", NOT);
        Edges.refuse(PAIR + "; shake(3, 9); pick(0, 0, 0, 50, 60)", "move(1)", NOT);
        Edges.refuse(PAIR + "; shake(3, 9); pick(0, 1, 0, 50, 60)", "move(0)", NOT);
        Edges.life(PAIR + "; pick(0, 0, 1, 50, 60); move(0)=0; of(0, 0)=50");
    }

    @Says(promise = 26, value = "UNKNOWN; NOT: it has no PICKS")
    static void moveNoShake() {
        for (String bad : new String[] {"-1", "2", "MIN", "MAX"}) Edges.refuse(SOME, "move(" + bad + ")", UNKNOWN);
        Edges.refuse("", "move(0)", UNKNOWN);
        Edges.refuse(PAIR, "move(1)", UNKNOWN);
        Edges.refuse(ALL, "move(5)", UNKNOWN);
    }

    // ---- 27

    @Says(promise = 27, value = {"OFF CLOCK of an EAR", "OFF CLOCK of an EAR: the CLOCK (-99 .. 99) by which most of its PICKS FIT"})
    static void offFromMinus99To99() {
        Life x = Edges.life("ground(2, 2); ear(0); shake(0, 100); pick(0, 0, 0, 199, 300); off(0)=99; tell(0, 200, 300); off(0)=0; tell(0, 198, 300); off(0)=98");
        x.tell("tell(0, 0, 1); off(0)=-99; tell(0, 0, 0); off(0)=0; tell(0, 0, 2); off(0)=-98; tell(0, 0, 3000); off(0)=0; tell(0, 100, 100); off(0)=0; tell(0, 101, 101); off(0)=1; tell(0, 99, 99); off(0)=-1");
        Edges.onlyAsks(SOME, "off(1)");
    }

    @Says(promise = 27, value = "of several that nearest to 0, then the lesser")
    static void offNearestThenLesser() {
        Life x = Edges.life("ground(2, 2); ear(0); clock(0, 50); shake(0, 100); pick(0, 0, 0, 105, 107); off(0)=5; tell(0, 95, 97); off(0)=-3; pick(0, 0, 0, 103, 103); off(0)=-3; tell(1, 102, 102); off(0)=2; tell(1, 104, 104); off(0)=-3");
        // Two at a far clock are more than one at a near one.
        x.tell("pick(0, 0, 0, 180, 180); tell(1, 180, 190); off(0)=80; tell(0, 1, 1); off(0)=80; tell(1, 1, 1); off(0)=-99; pick(0, 0, 0, 199, 199); tell(2, 199, 199); off(0)=-99");
    }

    @Says(promise = 27, value = "by which most of its PICKS FIT")
    static void offOfItsPicksOnly() {
        Edges.life("ear(0); off(0)=0; clock(0, 7); off(0)=0; ear(3); shake(0, 0); pick(0, 0, 0, 9, 9); off(1)=0; off(0)=9; pick(1, 0, 1, 110, 110); off(1)=8; of(0, 0)=7");
    }

    @Says(promise = 27, value = "UNKNOWN answers -102")
    static void offOfNoEar() {
        for (String bad : new String[] {"-1", "3", "MIN", "MAX"}) Edges.refuse(SOME, "off(" + bad + ")", -102);
        Edges.refuse("", "off(0)", -102);
        Edges.refuse(ALL, "off(6)", -102);
        Edges.refuse(SOME + "; ground(3, 3)", "off(0)", -102);
    }

    // ---- 28

    @Says(promise = 28, value = {"FOUND of a BOARD of a and b (1 .. 60)", "FOUND: from SLOW of a and b by 2, cut, in all BLOCKS"})
    static void boardWithoutPicks() {
        Edges.life("split(0, 1); board(20, 21, 0)=1; board(21, 20, 0)=1; board(20, 20, 0)=2; board(20, 22, 0)=0; board(1, 1, 0)=2; board(60, 60, 20)=2; board(1, 2, 0)=1; board(59, 60, 0)=1; board(60, 59, 0)=1; board(1, 60, 20)=0");
        Edges.life("board(20, 21, 0)=1; board(21, 20, 0)=0; board(20, 20, 0)=1");
    }

    @Says(promise = 28, value = {"A BOARD of a and b: were SLOW a in BLOCKS of even numbers, b in others, each PICK would be from FORETOLD less tol to FORETOLD and tol (tol 0 .. 20)"})
    static void boardFoundWithinTol() {
        String one = PAIR + "; put(0, 0, 77); clock(0, -9); pick(0, 0, 0, 3000, 3000)";
        Edges.life(one).tell("board(10, 20, 0)=1; board(10, 20, 1)=1; board(10, 20, 2)=0; board(20, 10, 0)=1; board(20, 10, 1)=1; board(20, 10, 2)=0; board(10, 10, 20)=1");
        Edges.life(one).tell("board(10, 60, 20)=0; board(1, 60, 20)=1; board(1, 60, 0)=1; board(60, 1, 0)=1; board(60, 1, 1)=1; board(60, 1, 2)=0");
        // By kind 1 10 is 17, 9 is 15: 34 less 4 is 30.
        Edges.life(PAIR + "; pick(0, 0, 1, 0, 0); board(10, 20, 0)=1; board(60, 20, 0)=1; board(1, 20, 0)=1; board(10, 20, 3)=1; board(10, 20, 4)=0");
        // What is foretold may be below 0 and above 3000.
        Edges.life(PAIR + "; clock(0, -99); pick(0, 0, 0, 0, 0); board(10, 20, 0)=1; board(40, 20, 0)=1");
        Edges.life("ground(4, 4); ratio(30); ear(15); clock(0, 99); shake(0, 1000); pick(0, 0, 1, 0, 0); board(60, 1, 0)=1; board(59, 1, 0)=1");
    }

    @Says(promise = 28, value = "how many BLOCKS IN USE have SLOW as on the BOARD")
    static void boardOfEvenAndOdd() {
        String both = THREE + "; pick(1, 0, 0, 0, 0); pick(0, 1, 0, 0, 0)";
        Edges.life(both).tell("board(8, 30, 0)=2; board(30, 8, 0)=2; board(8, 30, 2)=0");
        Edges.life(THREE + "; pick(1, 0, 0, 0, 0); board(8, 30, 0)=1");
        Edges.life(THREE + "; pick(0, 1, 0, 0, 0); board(8, 30, 0)=1");
        Edges.life(both + "; join(2, 1); board(8, 30, 0)=2; join(5, 0); board(8, 30, 0)=2; join(7, 2); board(8, 30, 0)=2");
        // Both in blocks of odd numbers: found by b alone.
        Edges.life(both + "; join(3, 0); board(8, 30, 0)=2; join(3, 1); board(8, 30, 0)=1; board(19, 20, 20)=0; board(20, 19, 20)=1");
    }

    @Says(promise = 28, value = "FITTED by 10 SWEEPS to such PICKS")
    static void boardByTenSweeps() {
        // From 30 block 0 goes up by 1, 3, 5 .. and block 1 down by 2, 4, 6 ..: 19 and 20 after ten sweeps.
        Edges.life(DRIFT).tell("board(49, 11, 1)=2; board(50, 10, 1)=1; board(51, 9, 1)=0; board(47, 13, 1)=2");
    }

    @Says(promise = 28, value = "(Nothing is changed.)")
    static void boardChangesNothing() {
        for (String state : new String[] {"", SOME, ALL, DRIFT}) {
            Edges.onlyAsks(state, "board(1, 60, 0)");
            Edges.onlyAsks(state, "board(60, 1, 20)");
        }
    }

    @Says(promise = 28, value = {"OUTSIDE", "tol (tol 0 .. 20)"})
    static void boardOfNoNumbers() {
        for (String bad : new String[] {"0", "61", "-1", "MIN", "MAX"}) {
            Edges.refuse(SOME, "board(" + bad + ", 1, 0)", OUTSIDE);
            Edges.refuse(SOME, "board(60, " + bad + ", 20)", OUTSIDE);
        }
        for (String bad : new String[] {"-1", "21", "MIN", "MAX"}) Edges.refuse(SOME, "board(1, 60, " + bad + ")", OUTSIDE);
        Edges.refuse(SOME, "board(0, 61, 21)", OUTSIDE);
        Edges.refuse("", "board(0, 0, 0)", OUTSIDE);
    }

    public static void main(String[] args) {
        Edges.run(FittingEdgesTest.class);
    }
}
