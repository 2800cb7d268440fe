/** Promises 1 to 9, sentence by sentence: the ground, its blocks, times and ways, at their edges. */
public final class GroundEdgesTest {
    private static final int NONE = -1, UNKNOWN = -2, OUTSIDE = -3, NOT = -4, FULL = -5;
    private static final String SOME = Edges.SOME, ALL = Edges.ALL;
    private static final String[] STATES = {"", "ground(2, 2)", SOME, ALL};
    private static final String[] FAR = {"-1", "-2", "MIN", "MAX"};

    // ---- 1

    @Says(promise = 1, value = {"Four by three CELLS", "4 by 3 at first"})
    static void newHasFourByThree() {
        Edges.life("count(0)=12; at(0, 0)=0; at(11, 0)=0; at(12, 0)=UNKNOWN; at(-1, 0)=UNKNOWN");
        Edges.life("time(0, 3, 0)=60; time(3, 4, 0)=80; time(0, 4, 0)=20; time(4, 8, 0)=20; time(7, 8, 0)=80; time(0, 11, 0)=100");
        Edges.same("ground(4, 3)", "");
    }

    @Says(promise = 1, value = {"all in BLOCK 0", "all in 0 at first"})
    static void newIsAllInBlock0() {
        for (int c = 0; c < 12; c++) Edges.life("at(" + c + ", 0)=0");
        Edges.life("count(1)=1; resolved(0)=0; resolved(1)=NONE; resolved(7)=NONE");
    }

    @Says(promise = 1, value = "BLOCKS have SLOW (1 .. 60; 10 at first)")
    static void newHasSlow10() {
        for (int b = 0; b < 8; b++) Edges.life("slow(" + b + ", 11)=10");
        for (int c = 0; c < 12; c++) Edges.life("at(" + c + ", 1)=10");
    }

    @Says(promise = 1, value = "1, by SLOW times RATIO (10 .. 30; 17 at first), by 10, cut")
    static void newHasRatio17() {
        Edges.life("time(0, 1, 1)=34; ratio(17)=17");
    }

    @Says(promise = 1, value = "THE DAY (0 at first")
    static void newHasNothingElse() {
        Edges.life("count(2)=0; count(3)=0; count(4)=0; count(5)=0; count(6)=0; count(7)=0");
        Edges.life("misfit(0, 0)=0; misfit(0, 1)=0; misfit(1, 0)=OUTSIDE");
    }

    @Says(promise = 1, value = "UNKNOWN (no such CELL, BLOCK, EAR, SHAKE, PICK)")
    static void newKnowsNoEarShakeOrPick() {
        String[] calls = {"clock(0, 0)", "put(0, 0, 0)", "pick(0, 0, 0, 0, 0)", "tell(0, 0, 0)", "of(0, 0)", "heap(0, 0, 0)", "move(0)"};
        for (String call : calls) Edges.refuse("", call, UNKNOWN);
        Edges.refuse("", "off(0)", -102);
        Edges.refuse("ear(0)", "pick(0, 0, 0, 0, 0)", UNKNOWN);
        Edges.refuse("shake(0, 0)", "pick(0, 0, 0, 0, 0)", UNKNOWN);
    }

    @Says(promise = 1, value = "each in a BLOCK 0 .. 7")
    static void answersTheLastOf512Calls() {
        Life x = Edges.life("split(0, 1)=1; days(50); ear(3)");
        while (x.calls() < 510) x.ask("at(0, 1)");
        x.tell("slow(1, 22)=10; at(0, 1)=22");
        Edges.due(512, x.calls());
    }

    // ---- 2

    @Says(promise = 2, value = {"4 each", "how many CELLS"})
    static void groundOfTwoToFour() {
        for (int w = 2; w <= 4; w++) {
            for (int h = 2; h <= 4; h++) {
                int n = w * h;
                Edges.life("ground(" + w + ", " + h + ")=" + n + "; count(0)=" + n + "; at(" + (n - 1) + ", 0)=0; at(" + n + ", 0)=UNKNOWN;"
                    + "split(0, " + (1 << n) + ")=OUTSIDE; split(0, " + (1 << n - 1) + ")=1; at(" + (n - 1) + ", 0)=1;"
                    + "time(0, " + (n - 1) + ", 0)=" + 20 * (w + h - 2));
            }
        }
    }

    @Says(promise = 2, value = {"OUTSIDE", "OUTSIDE (another number is not as told)"})
    static void groundOfOneOrFive() {
        for (String state : STATES) {
            for (int other : new int[] {2, 4}) {
                for (String bad : new String[] {"1", "5", "0", "-2", "-3", "MIN", "MAX"}) {
                    Edges.refuse(state, "ground(" + bad + ", " + other + ")", OUTSIDE);
                    Edges.refuse(state, "ground(" + other + ", " + bad + ")", OUTSIDE);
                }
            }
            Edges.refuse(state, "ground(1, 5)", OUTSIDE);
            Edges.refuse(state, "ground(5, 1)", OUTSIDE);
            Edges.refuse(state, "ground(6, 2)", OUTSIDE);
        }
    }

    @Says(promise = 2, value = "CELL w y + x")
    static void cellsLieRowByRow() {
        Edges.life("ground(2, 4); time(0, 1, 0)=20; time(0, 2, 0)=20; time(1, 2, 0)=40; time(0, 6, 0)=60; time(5, 6, 0)=40");
        Edges.life("ground(4, 2); time(0, 4, 0)=20; time(3, 4, 0)=80; time(3, 7, 0)=20; time(0, 2, 0)=40");
        Edges.life("ground(3, 3); time(2, 3, 0)=60; time(0, 3, 0)=20; time(5, 6, 0)=60; time(4, 7, 0)=20");
    }

    @Says(promise = 2, value = "no EARS, SHAKES, PICKS any more")
    static void groundForgetsWhatWasHeard() {
        for (String state : new String[] {SOME, ALL}) {
            Life x = Edges.life(state).tell("ground(4, 4)=16; count(2)=0; count(3)=0; count(4)=0; count(5)=0");
            x.tell("clock(0, 0)=UNKNOWN; put(0, 0, 0)=UNKNOWN; of(0, 0)=UNKNOWN; tell(0, 0, 0)=UNKNOWN; off(0)=-102; best(0)=NOT");
            x.tell("misfit(0, 0)=0; misfit(0, 1)=0; fit(1)=0; quarrel()=0; rank()=0");
        }
    }

    @Says(promise = 2, value = "no EARS, SHAKES, PICKS any more")
    static void groundMakesRoomForAllAgain() {
        Life x = Edges.life(ALL).tell("ground(2, 2)=4");
        for (int e = 0; e < 6; e++) x.tell("ear(1)=" + e);
        for (int s = 0; s < 5; s++) x.tell("shake(0, 0)=" + s);
        for (int p = 0; p < 12; p++) x.tell("pick(5, 4, 0, 0, 0)=" + p);
        for (int t = 13; t <= 40; t++) x.tell("tell(11, 5, 5)=" + t);
        x.tell("ear(1)=FULL; shake(1, 0)=FULL; pick(0, 0, 0, 0, 0)=FULL; tell(0, 0, 0)=FULL");
        x.tell("of(0, 0)=20; of(11, 2)=5; of(0, 2)=0");
    }

    @Says(promise = 2, value = {"all in BLOCK 0", "each SLOW 10"})
    static void groundIsOneBlockOfSlow10() {
        Life x = Edges.life(ALL).tell("ground(4, 4); count(1)=1");
        for (int c = 0; c < 16; c++) x.tell("at(" + c + ", 0)=0; at(" + c + ", 1)=10");
        for (int b = 0; b < 8; b++) x.tell("slow(" + b + ", 10)=10");
        x.tell("split(0, 1)=1");
    }

    @Says(promise = 2, value = "THE GROUND: no EARS, SHAKES, PICKS any more, all in BLOCK 0, each SLOW 10: how many CELLS")
    static void groundLeavesTheRest() {
        Life x = Edges.life(SOME);
        int bytes = x.ask("count(7)");
        x.tell("ground(3, 3)=9; count(6)=5; count(7)=" + bytes + "; ratio(23)=23; fault()=35");
        Edges.same(SOME + "; ground(2, 3); ground(4, 2)", SOME + "; ground(4, 2)");
    }

    // ---- 3

    @Says(promise = 3, value = {"RATIO: that which it was", "RATIO (10 .. 30; 17 at first)"})
    static void ratioFrom10To30() {
        Edges.life("ratio(10)=17; ratio(30)=10; ratio(30)=30; ratio(10)=30; ratio(17)=10");
        Edges.life("ratio(10); time(0, 1, 1)=20; ratio(30); time(0, 1, 1)=60; time(0, 1, 0)=20");
    }

    @Says(promise = 3, value = "OUTSIDE")
    static void ratioOf9Or31() {
        for (String state : STATES) {
            for (String bad : new String[] {"9", "31", "0", "-10", "-17", "MIN", "MAX"}) Edges.refuse(state, "ratio(" + bad + ")", OUTSIDE);
        }
    }

    @Says(promise = 3, value = "by SLOW times RATIO (10 .. 30; 17 at first), by 10, cut")
    static void ratioIsCutCellByCell() {
        // 1 by 19 is 1.9, 2 by 19 is 3.8: what both cells have is cut ahead of the sum.
        Edges.life("ratio(19); slow(0, 1); time(0, 1, 1)=2; slow(0, 2); time(0, 1, 1)=6; slow(0, 10); time(0, 1, 1)=38");
        Edges.life("ratio(19); slow(0, 1); split(0, 1); slow(1, 2); time(0, 1, 1)=4; time(1, 0, 1)=4");
        Edges.life("ratio(30); slow(0, 60); time(0, 1, 1)=360; ratio(10); slow(0, 1); time(0, 1, 1)=2");
        Edges.life("ratio(11); slow(0, 9); time(0, 1, 1)=18; slow(0, 10); time(0, 1, 1)=22");
    }

    // ---- 4

    @Says(promise = 4, value = {"SLOW of a BLOCK: that which it was", "BLOCKS have SLOW (1 .. 60; 10 at first)"})
    static void slowFrom1To60() {
        Edges.life("slow(0, 1)=10; slow(0, 60)=1; at(11, 1)=60; slow(0, 60)=60; slow(7, 1)=10; slow(7, 60)=1; slow(7, 5)=60; at(0, 1)=60");
        Edges.life("slow(0, 1); time(0, 1, 0)=2; slow(0, 60); time(0, 1, 0)=120");
    }

    @Says(promise = 4, value = "OUTSIDE")
    static void slowOf0Or61() {
        for (String state : STATES) {
            for (String bad : new String[] {"0", "61", "-1", "MIN", "MAX"}) {
                Edges.refuse(state, "slow(0, " + bad + ")", OUTSIDE);
                Edges.refuse(state, "slow(7, " + bad + ")", OUTSIDE);
            }
        }
    }

    @Says(promise = 4, value = "UNKNOWN")
    static void slowOfNoBlock() {
        for (String state : STATES) {
            Edges.refuse(state, "slow(8, 10)", UNKNOWN);
            for (String bad : FAR) Edges.refuse(state, "slow(" + bad + ", 10)", UNKNOWN);
        }
    }

    @Says(promise = 4, value = {"UNKNOWN; OUTSIDE", "the first of these that fits"})
    static void slowOfNoBlockAndNoNumber() {
        for (String pair : new String[] {"8, 0", "8, 61", "-1, 0", "-1, 61", "MIN, MIN", "MAX, MAX"}) Edges.refuse(SOME, "slow(" + pair + ")", UNKNOWN);
    }

    // ---- 5

    @Says(promise = 5, value = {"A BLOCK is SPLIT by a set of CELLS (bits): the new BLOCK",
        "SPLIT a BLOCK by a set of CELLS: those of it in the set, if these are some and not all, are in the least BLOCK not IN USE from now on, with the same SLOW"})
    static void splitBySomeAndNotAll() {
        Edges.life("ground(2, 2); slow(0, 25); slow(1, 7); split(0, 1)=1; at(0, 0)=1; at(0, 1)=25; at(1, 0)=0; at(1, 1)=25; count(1)=2");
        Edges.life("ground(2, 2); split(0, 14)=1; at(0, 0)=0; at(1, 0)=1; at(2, 0)=1; at(3, 0)=1");
        Edges.life("ground(2, 2); split(0, 8)=1; at(3, 0)=1; at(2, 0)=0; slow(1, 33)=10; at(3, 1)=33; at(2, 1)=10");
    }

    @Says(promise = 5, value = "those of it in the set")
    static void splitMovesOnlyItsOwnCells() {
        Edges.life("ground(2, 2); split(0, 3)=1; split(0, 7)=2; at(0, 0)=1; at(1, 0)=1; at(2, 0)=2; at(3, 0)=0");
        Edges.life("ground(2, 2); split(0, 3)=1; split(0, 11)=2; at(0, 0)=1; at(2, 0)=0; at(3, 0)=2");
    }

    @Says(promise = 5, value = {"are in the least BLOCK not IN USE from now on, with the same SLOW", "one is IN USE, if it has CELLS"})
    static void splitTakesTheLeastNotInUse() {
        Life x = Edges.life("ground(3, 3); split(0, 1)=1; split(0, 2)=2; split(0, 4)=3; slow(2, 50); slow(0, 20); join(1, 2)=2; count(1)=3");
        x.tell("split(0, 8)=2; at(3, 0)=2; at(3, 1)=20; at(1, 0)=1; at(1, 1)=10");
        Edges.life("ground(2, 2); split(0, 1)=1; join(1, 0)=4; split(1, 2)=0; at(1, 0)=0");
        Edges.life("ground(2, 2); join(7, 0)=4; split(7, 2)=0; split(7, 4)=1; slow(7, 9); split(7, 8)=2; at(3, 1)=9");
    }

    @Says(promise = 5, value = "NOT: none or all of its CELLS are in the set")
    static void splitByNoneOrAll() {
        Edges.refuse("", "split(0, 0)", NOT);
        Edges.refuse("", "split(0, 4095)", NOT);
        Edges.refuse("split(0, 3)", "split(0, 3)", NOT);
        Edges.refuse("split(0, 3)", "split(1, 3)", NOT);
        Edges.refuse("split(0, 3)", "split(1, 7)", NOT);
        Edges.refuse("split(0, 3)", "split(1, 4092)", NOT);
        Edges.refuse("split(0, 3)", "split(0, 4092)", NOT);
        Edges.refuse("split(0, 3)", "split(0, 4095)", NOT);
        Edges.refuse(SOME, "split(7, 1)", NOT);
        Edges.refuse(SOME, "split(2, 511)", NOT);
        Edges.life("split(0, 3); split(1, 1)=2");
        Edges.life("split(0, 3); split(1, 4094)=2; at(1, 0)=2; at(0, 0)=1; at(2, 0)=0");
    }

    @Says(promise = 5, value = "OUTSIDE: bits of no CELLS")
    static void splitByBitsOfNoCells() {
        for (int w = 2; w <= 4; w++) {
            for (int h = 2; h <= 4; h++) {
                String net = "ground(" + w + ", " + h + ")";
                int next = 1 << w * h;
                for (String bad : new String[] {"" + next, "" + (next + 1), "" + (next | next - 1), "-1", "MIN", "MAX", "65536", "1073741824"}) {
                    Edges.refuse(net, "split(0, " + bad + ")", OUTSIDE);
                }
                Edges.life(net + "; split(0, " + (next - 2) + ")=1; at(0, 0)=0; at(" + (w * h - 1) + ", 0)=1");
            }
        }
    }

    @Says(promise = 5, value = "UNKNOWN")
    static void splitOfNoBlock() {
        for (String state : STATES) {
            Edges.refuse(state, "split(8, 1)", UNKNOWN);
            for (String bad : FAR) Edges.refuse(state, "split(" + bad + ", 1)", UNKNOWN);
        }
    }

    /** Nine cells in eight blocks: cells 0 and 8 in block 0, each other one alone. */
    private static String eightBlocks() {
        StringBuilder rows = new StringBuilder("ground(3, 3)");
        for (int i = 1; i < 8; i++) rows.append("; split(0, ").append(1 << i).append(")=").append(i);
        return rows.toString();
    }

    @Says(promise = 5, value = {"FULL: all BLOCKS are IN USE", "each in a BLOCK 0 .. 7"})
    static void splitWithAllInUse() {
        Edges.life(eightBlocks()).tell("count(1)=8; at(7, 0)=7");
        Edges.refuse(eightBlocks(), "split(0, 1)", FULL);
        Edges.refuse(eightBlocks(), "split(0, 256)", FULL);
        Edges.refuse(eightBlocks(), "split(0, 255)", FULL);
        Edges.refuse(ALL, "split(7, 32768)", FULL);
        Edges.life(eightBlocks()).tell("join(3, 5)=2; split(0, 1)=5; at(0, 0)=5; split(0, 256)=NOT; split(3, 8)=FULL");
    }

    @Says(promise = 5, value = "UNKNOWN; OUTSIDE: bits of no CELLS; NOT: none or all of its CELLS are in the set; FULL: all BLOCKS are IN USE")
    static void splitWithTwoFaultsAtOnce() {
        String full = eightBlocks();
        Edges.refuse(SOME, "split(8, 512)", UNKNOWN);
        Edges.refuse(SOME, "split(-1, -1)", UNKNOWN);
        Edges.refuse(SOME, "split(8, 0)", UNKNOWN);
        Edges.refuse(full, "split(8, 1)", UNKNOWN);
        Edges.refuse(full, "split(-1, 512)", UNKNOWN);
        Edges.refuse(SOME, "split(7, 512)", OUTSIDE);
        Edges.refuse(SOME, "split(0, 1023)", OUTSIDE);
        Edges.refuse(full, "split(0, 513)", OUTSIDE);
        Edges.refuse(full, "split(1, 512)", OUTSIDE);
        Edges.refuse(full, "split(0, 0)", NOT);
        Edges.refuse(full, "split(0, 2)", NOT);
        Edges.refuse(full, "split(0, 257)", NOT);
        Edges.refuse(full, "split(1, 2)", NOT);
    }

    // ---- 6

    @Says(promise = 6, value = "CELLS of BLOCK two come to BLOCK one (whose SLOW stays): how many CELLS that has")
    static void joinBringsCells() {
        String two = "ground(2, 2); split(0, 1); slow(1, 30)";
        Edges.life(two).tell("join(0, 1)=4; at(0, 0)=0; at(0, 1)=10; count(1)=1; slow(1, 9)=30");
        Edges.life(two).tell("join(1, 0)=4; at(3, 0)=1; at(3, 1)=30; count(1)=1; slow(0, 9)=10");
        Edges.life(two).tell("join(7, 1)=1; at(0, 0)=7; at(0, 1)=10; at(1, 0)=0; count(1)=2; join(7, 0)=4");
        Edges.life("ground(2, 2); split(0, 1); split(0, 2); join(1, 2)=2; at(1, 0)=1; at(2, 0)=0; at(3, 0)=0");
    }

    @Says(promise = 6, value = "how many CELLS that has")
    static void joinOfNoCells() {
        Edges.life("ground(2, 2); split(0, 1); join(0, 5)=3; join(1, 7)=1; join(6, 5)=0; join(5, 6)=0; count(1)=2; at(0, 0)=1");
        Edges.life("join(0, 7)=12; join(7, 0)=12; count(1)=1; at(0, 0)=7");
    }

    @Says(promise = 6, value = "UNKNOWN")
    static void joinOfNoBlock() {
        for (String bad : new String[] {"8", "-1", "MIN", "MAX"}) {
            Edges.refuse(SOME, "join(" + bad + ", 0)", UNKNOWN);
            Edges.refuse(SOME, "join(0, " + bad + ")", UNKNOWN);
            Edges.refuse(ALL, "join(7, " + bad + ")", UNKNOWN);
        }
    }

    @Says(promise = 6, value = "OUTSIDE: one is two")
    static void joinOfOneToItself() {
        for (String state : STATES) {
            for (int b = 0; b < 8; b++) Edges.refuse(state, "join(" + b + ", " + b + ")", OUTSIDE);
        }
    }

    @Says(promise = 6, value = "UNKNOWN; OUTSIDE: one is two")
    static void joinOfNoBlockToItself() {
        for (String bad : new String[] {"8", "-1", "MIN", "MAX"}) Edges.refuse(SOME, "join(" + bad + ", " + bad + ")", UNKNOWN);
    }

    // ---- 7

    @Says(promise = 7, value = "Of a CELL: its BLOCK (what 0), SLOW there (1)")
    static void atFirstAndLastCell() {
        Edges.life("ground(2, 2); split(0, 8); slow(1, 44); at(0, 0)=0; at(0, 1)=10; at(3, 0)=1; at(3, 1)=44; slow(1, 1); at(3, 1)=1; at(2, 1)=10");
        Edges.onlyAsks(SOME, "at(8, 0)");
        Edges.onlyAsks(SOME, "at(0, 1)");
    }

    @Says(promise = 7, value = "UNKNOWN")
    static void atNoCell() {
        for (String bad : FAR) for (String state : STATES) Edges.refuse(state, "at(" + bad + ", 0)", UNKNOWN);
        Edges.refuse("ground(2, 2)", "at(4, 1)", UNKNOWN);
        Edges.refuse(SOME, "at(9, 0)", UNKNOWN);
        Edges.refuse("", "at(12, 0)", UNKNOWN);
        Edges.refuse(ALL, "at(16, 0)", UNKNOWN);
        Edges.refuse("ground(4, 4); ground(2, 2)", "at(4, 0)", UNKNOWN);
    }

    @Says(promise = 7, value = "OUTSIDE")
    static void atNoWhat() {
        for (String bad : new String[] {"-1", "2", "MIN", "MAX"}) for (String state : STATES) Edges.refuse(state, "at(0, " + bad + ")", OUTSIDE);
    }

    @Says(promise = 7, value = "UNKNOWN; OUTSIDE")
    static void atNoCellAndNoWhat() {
        for (String pair : new String[] {"9, 2", "9, -1", "-1, 2", "-1, -1", "MAX, MAX", "MIN, MIN"}) Edges.refuse(SOME, "at(" + pair + ")", UNKNOWN);
    }

    // ---- 8

    @Says(promise = 8, value = {"TIME from a CELL to another one by a KIND", "(0 to itself)"})
    static void timeToItself() {
        for (int c = 0; c < 16; c++) Edges.life(ALL).tell("time(" + c + ", " + c + ", 0)=0; time(" + c + ", " + c + ", 1)=0");
    }

    @Says(promise = 8, value = "each step takes what both CELLS have by the KIND")
    static void timeOfOneStep() {
        String two = "ground(2, 2); split(0, 1); slow(0, 60); slow(1, 1)";
        Edges.life(two).tell("time(0, 1, 0)=61; time(1, 0, 0)=61; time(1, 3, 0)=120; time(0, 3, 0)=181");
        Edges.life(two).tell("ratio(19); time(0, 1, 1)=115; time(1, 3, 1)=228; time(3, 0, 1)=343");
    }

    @Says(promise = 8, value = "KINDS of waves: 0, by SLOW of the BLOCK of a CELL")
    static void timeOfKind0IsNotByRatio() {
        Edges.life("ratio(30); time(0, 11, 0)=100; time(0, 11, 1)=300; ratio(10); time(0, 11, 0)=100; time(0, 11, 1)=100");
    }

    @Says(promise = 8, value = "TIME from a CELL to another one: the least of all WAYS (0 to itself)")
    static void timeAroundOrThrough() {
        // From 0 to 2 of three by three: through 1 it takes 20 + 2 v, around by the last row 120.
        String wall = "ground(3, 3); split(0, 18)";
        Edges.life(wall).tell("slow(1, 49); time(0, 2, 0)=118; slow(1, 50); time(0, 2, 0)=120; slow(1, 51); time(0, 2, 0)=120; slow(1, 60); time(2, 0, 0)=120");
        // By kind 1 of ratio 19 it is 38 + 2 (v 19 / 10) and 228: 50 is 95, 51 is 96.
        Edges.life(wall).tell("ratio(19); slow(1, 49); time(0, 2, 1)=224; slow(1, 50); time(0, 2, 1)=228; slow(1, 51); time(0, 2, 1)=228");
    }

    @Says(promise = 8, value = "A WAY goes from CELL to CELL side by side, no CELL twice")
    static void timeOfALongWay() {
        // Free are 0 1 2 3 7 11 10 9 8 12, the others slow: nine steps of 2 against 4 + 2 v through cell 4.
        String snake = "ground(4, 4); split(0, 57456); slow(0, 1); slow(1, 60)";
        Edges.life(snake).tell("time(0, 12, 0)=18; time(12, 0, 0)=18; slow(1, 7); time(0, 12, 0)=18; slow(1, 6); time(0, 12, 0)=16;"
            + "time(12, 0, 0)=16; slow(1, 7); time(0, 8, 0)=16; slow(1, 6); time(0, 8, 0)=14");
        // Corner cells do not touch each other.
        Edges.life("ground(2, 2); time(0, 3, 0)=40; time(1, 2, 0)=40");
        Edges.life("ground(4, 4); slow(0, 60); ratio(30); time(0, 15, 1)=2160; time(3, 12, 0)=720");
    }

    @Says(promise = 8, value = "UNKNOWN")
    static void timeOfNoCell() {
        for (String bad : new String[] {"9", "-1", "MIN", "MAX"}) {
            Edges.refuse(SOME, "time(" + bad + ", 0, 0)", UNKNOWN);
            Edges.refuse(SOME, "time(0, " + bad + ", 1)", UNKNOWN);
            Edges.refuse(SOME, "time(" + bad + ", " + bad + ", 0)", UNKNOWN);
        }
        Edges.refuse("ground(2, 2)", "time(0, 4, 0)", UNKNOWN);
        Edges.refuse("", "time(12, 11, 0)", UNKNOWN);
        Edges.refuse(ALL, "time(15, 16, 0)", UNKNOWN);
    }

    @Says(promise = 8, value = "OUTSIDE: kind")
    static void timeOfNoKind() {
        for (String bad : new String[] {"-1", "2", "MIN", "MAX"}) {
            Edges.refuse(SOME, "time(0, 8, " + bad + ")", OUTSIDE);
            Edges.refuse(SOME, "time(3, 3, " + bad + ")", OUTSIDE);
        }
    }

    @Says(promise = 8, value = "UNKNOWN; OUTSIDE: kind")
    static void timeOfNoCellAndNoKind() {
        for (String bad : new String[] {"9, 0, 2", "0, 9, 2", "-1, 0, -1", "0, -1, 2", "MAX, MAX, MAX"}) Edges.refuse(SOME, "time(" + bad + ")", UNKNOWN);
    }

    // ---- 9

    private static void way(String rows, int a, int b, int kind, int... cells) {
        Life x = Edges.life(rows);
        String of = "way(" + a + ", " + b + ", " + kind + ", ";
        for (int i = 0; i < cells.length; i++) x.tell(of + i + ")=" + cells[i]);
        x.tell(of + cells.length + ")=NONE; " + of + "MAX)=NONE");
    }

    @Says(promise = 9, value = "CELL i of THE WAY (0: the first one)")
    static void wayFromFirstToLast() {
        way("", 0, 10, 0, 0, 1, 2, 6, 10);
        way("", 0, 10, 1, 0, 1, 2, 6, 10);
        way("ground(2, 2)", 0, 3, 0, 0, 1, 3);
        way("ground(2, 2)", 3, 0, 0, 3, 1, 0);
        way("ground(2, 2)", 0, 1, 0, 0, 1);
        Edges.onlyAsks(SOME, "way(0, 8, 1, 2)");
    }

    @Says(promise = 9, value = "NONE: it has not so many")
    static void wayToItselfIsOneCell() {
        for (int c : new int[] {0, 5, 11}) way("", c, c, c % 2, c);
        Edges.refuse(SOME, "way(4, 4, 0, 1)", NONE);
        Edges.refuse(SOME, "way(0, 1, 0, 2)", NONE);
    }

    @Says(promise = 9, value = "THE WAY: that of such TIME that comes first (by its CELLS, one after the other, less ahead)")
    static void wayThatComesFirst() {
        way("", 8, 2, 0, 8, 4, 0, 1, 2);
        way("", 2, 8, 0, 2, 1, 0, 4, 8);
        way("", 3, 8, 0, 3, 2, 1, 0, 4, 8);
        way("", 8, 3, 0, 8, 4, 0, 1, 2, 3);
        way("", 11, 0, 0, 11, 7, 3, 2, 1, 0);
        // It is the first of them from its first cell on: from the other end it is another one.
        way("ground(3, 3)", 0, 8, 0, 0, 1, 2, 5, 8);
        way("ground(3, 3)", 8, 0, 0, 8, 5, 2, 1, 0);
        way("ground(3, 3)", 6, 2, 0, 6, 3, 0, 1, 2);
    }

    @Says(promise = 9, value = "THE WAY: that of such TIME that comes first")
    static void wayOfAsLongATime() {
        String wall = "ground(3, 3); split(0, 18); split(1, 16); slow(2, 60)";
        way(wall + "; slow(1, 49)", 0, 2, 0, 0, 1, 2);
        way(wall + "; slow(1, 50)", 0, 2, 0, 0, 1, 2);
        way(wall + "; slow(1, 51)", 0, 2, 0, 0, 3, 6, 7, 8, 5, 2);
        // The same with the slow cell in the last row: a way of more cells that comes first stays ahead.
        String below = "ground(3, 3); split(0, 144); split(1, 16); slow(2, 60)";
        way(below + "; slow(1, 49)", 6, 8, 0, 6, 7, 8);
        way(below + "; slow(1, 50)", 6, 8, 0, 6, 3, 0, 1, 2, 5, 8);
        way(below + "; slow(1, 51)", 6, 8, 0, 6, 3, 0, 1, 2, 5, 8);
    }

    @Says(promise = 9, value = "by SLOW times RATIO (10 .. 30; 17 at first), by 10, cut")
    static void wayOfKind1IsItsOwn() {
        // Through cell 1 it takes 2 + 2 v, around 12; by kind 1 slow 1 stays 1 (1.9 is cut), 3 is 5, 4 is 7.
        String wall = "ground(3, 3); ratio(19); split(0, 18); split(1, 16); slow(2, 60); slow(0, 1)";
        way(wall + "; slow(1, 6)", 0, 2, 0, 0, 3, 6, 7, 8, 5, 2);
        way(wall + "; slow(1, 5)", 0, 2, 0, 0, 1, 2);
        way(wall + "; slow(1, 3)", 0, 2, 1, 0, 1, 2);
        way(wall + "; slow(1, 4)", 0, 2, 1, 0, 3, 6, 7, 8, 5, 2);
        way(wall + "; slow(1, 4)", 0, 2, 0, 0, 1, 2);
    }

    @Says(promise = 9, value = "UNKNOWN")
    static void wayOfNoCell() {
        for (String bad : new String[] {"9", "-1", "MIN", "MAX"}) {
            Edges.refuse(SOME, "way(" + bad + ", 0, 0, 0)", UNKNOWN);
            Edges.refuse(SOME, "way(0, " + bad + ", 0, 0)", UNKNOWN);
        }
        Edges.refuse("ground(2, 2)", "way(4, 3, 0, 0)", UNKNOWN);
        Edges.refuse(ALL, "way(15, 16, 1, 0)", UNKNOWN);
    }

    @Says(promise = 9, value = "OUTSIDE: also i below 0")
    static void wayOfNoKindOrNoPlace() {
        for (String bad : new String[] {"-1", "2", "MIN", "MAX"}) Edges.refuse(SOME, "way(0, 8, " + bad + ", 0)", OUTSIDE);
        for (String bad : new String[] {"-1", "-2", "MIN"}) Edges.refuse(SOME, "way(0, 8, 0, " + bad + ")", OUTSIDE);
        Edges.refuse(SOME, "way(0, 8, 2, -1)", OUTSIDE);
        Edges.refuse(SOME, "way(0, 0, 2, 99)", OUTSIDE);
    }

    @Says(promise = 9, value = "UNKNOWN; OUTSIDE: also i below 0")
    static void wayOfTwoFaultsAtOnce() {
        for (String bad : new String[] {"9, 0, 2, 0", "0, 9, 0, -1", "-1, 0, 2, -1", "9, 9, 0, 99", "0, MIN, MIN, MIN"}) {
            Edges.refuse(SOME, "way(" + bad + ")", UNKNOWN);
        }
    }

    public static void main(String[] args) {
        Edges.run(GroundEdgesTest.class);
    }
}
