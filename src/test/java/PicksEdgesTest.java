/** Promises 10 to 18, sentence by sentence: ears, shakes, picks, tellings and days, at their edges. */
public final class PicksEdgesTest {
    private static final int UNKNOWN = -2, OUTSIDE = -3, FULL = -5;
    private static final String SOME = Edges.SOME, ALL = Edges.ALL;
    /** An ear in cell 1, a shake in cell 0 begun at 0: 20 by kind 0, 34 by kind 1. */
    private static final String PAIR = "ground(2, 2); ear(1); shake(0, 0)";

    private static String times(int n, String row) {
        return ("; " + row).repeat(n);
    }

    // ---- 10

    @Says(promise = 10, value = {"An EAR: its number", "EARS (6 at most) are in a CELL"})
    static void sixEars() {
        Edges.life("ear(0)=0; ear(11)=1; ear(11)=2; ear(5)=3; ear(0)=4; ear(1)=5; count(2)=6; off(5)=0; off(6)=-102");
        Edges.life("ear(0); count(2)=1; clock(0, 0)=1; clock(1, 0)=UNKNOWN");
        Edges.life("ground(2, 2); ear(3)=0; shake(0, 0); pick(0, 0, 0, 0, 0); of(0, 0)=40; put(0, 3, 0); of(0, 0)=0");
    }

    @Says(promise = 10, value = "FULL")
    static void noSeventhEar() {
        Edges.refuse("ear(0)" + times(5, "ear(1)"), "ear(0)", FULL);
        Edges.refuse("ground(2, 2)" + times(6, "ear(3)"), "ear(3)", FULL);
        Edges.refuse(ALL, "ear(15)", FULL);
    }

    @Says(promise = 10, value = "UNKNOWN")
    static void earInNoCell() {
        for (String bad : new String[] {"-1", "16", "MIN", "MAX"}) Edges.refuse("", "ear(" + bad + ")", UNKNOWN);
        Edges.refuse("", "ear(12)", UNKNOWN);
        Edges.refuse("ground(2, 2)", "ear(4)", UNKNOWN);
        Edges.refuse(SOME, "ear(9)", UNKNOWN);
        Edges.refuse("ground(4, 4)", "ear(16)", UNKNOWN);
        Edges.life("ground(4, 4); ear(15)=0");
    }

    @Says(promise = 10, value = "UNKNOWN; FULL")
    static void seventhEarInNoCell() {
        for (String bad : new String[] {"-1", "16", "MIN", "MAX"}) Edges.refuse(ALL, "ear(" + bad + ")", UNKNOWN);
    }

    // ---- 11

    @Says(promise = 11, value = {"CLOCK of an EAR: 1", "with a CLOCK (-99 .. 99; 0 at first)"})
    static void clockFromMinus99To99() {
        Edges.life(PAIR + "; pick(0, 0, 0, 0, 0); of(0, 0)=20; clock(0, 99)=1; of(0, 0)=119; clock(0, -99)=1; of(0, 0)=-79; clock(0, 0)=1; of(0, 0)=20");
        Edges.life(PAIR + times(5, "ear(2)") + "; clock(5, 7)=1; pick(5, 0, 0, 0, 0); of(0, 0)=27; pick(4, 0, 0, 0, 0); of(1, 0)=20");
        Edges.life("ear(0); clock(0, 44); ground(2, 2); ear(0); shake(0, 0); pick(0, 0, 0, 0, 0); of(0, 0)=0");
    }

    @Says(promise = 11, value = "OUTSIDE")
    static void clockBeyond99() {
        for (String bad : new String[] {"-100", "100", "MIN", "MAX"}) {
            Edges.refuse(SOME, "clock(1, " + bad + ")", OUTSIDE);
            Edges.refuse(ALL, "clock(5, " + bad + ")", OUTSIDE);
        }
    }

    @Says(promise = 11, value = "UNKNOWN")
    static void clockOfNoEar() {
        for (String bad : new String[] {"-1", "3", "MIN", "MAX"}) Edges.refuse(SOME, "clock(" + bad + ", 5)", UNKNOWN);
        Edges.refuse("", "clock(0, 0)", UNKNOWN);
        Edges.refuse(ALL, "clock(6, 0)", UNKNOWN);
        Edges.refuse(SOME + "; ground(3, 3)", "clock(0, 0)", UNKNOWN);
    }

    @Says(promise = 11, value = "UNKNOWN; OUTSIDE")
    static void clockOfNoEarAndNoNumber() {
        for (String bad : new String[] {"-1, 100", "3, -100", "3, 100", "MAX, MIN"}) Edges.refuse(SOME, "clock(" + bad + ")", UNKNOWN);
        Edges.refuse("", "clock(0, 100)", UNKNOWN);
    }

    // ---- 12

    @Says(promise = 12, value = {"A SHAKE: its number", "SHAKES (5 at most) in a CELL, BEGUN at (0 .. 1000)"})
    static void fiveShakes() {
        Life x = Edges.life("ground(2, 2); ear(0); shake(0, 0)=0; shake(3, 1000)=1; shake(3, 999)=2; shake(0, 1)=3; shake(1, 500)=4; count(3)=5");
        x.tell("pick(0, 0, 0, 0, 0); pick(0, 1, 0, 0, 0); pick(0, 2, 0, 0, 0); pick(0, 4, 0, 0, 0)");
        x.tell("of(0, 0)=0; of(1, 0)=1040; of(2, 0)=1039; of(3, 0)=520");
    }

    @Says(promise = 12, value = "FULL")
    static void noSixthShake() {
        Edges.refuse("shake(0, 0)" + times(4, "shake(3, 7)"), "shake(0, 0)", FULL);
        Edges.refuse(ALL, "shake(15, 1000)", FULL);
    }

    @Says(promise = 12, value = "OUTSIDE")
    static void shakeBegunBeyond1000() {
        for (String bad : new String[] {"-1", "1001", "MIN", "MAX"}) {
            Edges.refuse("", "shake(0, " + bad + ")", OUTSIDE);
            Edges.refuse(SOME, "shake(8, " + bad + ")", OUTSIDE);
        }
    }

    @Says(promise = 12, value = "UNKNOWN")
    static void shakeInNoCell() {
        for (String bad : new String[] {"-1", "9", "MIN", "MAX"}) Edges.refuse(SOME, "shake(" + bad + ", 0)", UNKNOWN);
        Edges.refuse("", "shake(12, 0)", UNKNOWN);
        Edges.refuse("ground(2, 2)", "shake(4, 0)", UNKNOWN);
        Edges.refuse("ground(4, 4)", "shake(16, 0)", UNKNOWN);
    }

    @Says(promise = 12, value = "UNKNOWN; OUTSIDE; FULL")
    static void shakeWithTwoFaultsAtOnce() {
        Edges.refuse(SOME, "shake(9, 1001)", UNKNOWN);
        Edges.refuse(SOME, "shake(-1, -1)", UNKNOWN);
        Edges.refuse(ALL, "shake(16, 0)", UNKNOWN);
        Edges.refuse(ALL, "shake(-1, 1001)", UNKNOWN);
        Edges.refuse(ALL, "shake(0, 1001)", OUTSIDE);
        Edges.refuse(ALL, "shake(0, -1)", OUTSIDE);
    }

    // ---- 13

    @Says(promise = 13, value = "A SHAKE is in another CELL, BEGUN at: 1")
    static void putFirstAndLast() {
        String rows = "ground(2, 2); ear(0); shake(1, 5); shake(2, 6); pick(0, 0, 0, 0, 0); pick(0, 1, 0, 0, 0)";
        Edges.life(rows).tell("put(0, 3, 0)=1; of(0, 0)=40; put(0, 0, 1000)=1; of(0, 0)=1000; of(1, 0)=26");
        Edges.life(rows).tell("put(1, 3, 1000)=1; of(1, 0)=1040; put(1, 0, 0)=1; of(1, 0)=0; of(0, 0)=25; put(1, 0, 0)=1; count(3)=2");
    }

    @Says(promise = 13, value = "UNKNOWN")
    static void putNoShakeOrNoCell() {
        for (String bad : new String[] {"-1", "2", "MIN", "MAX"}) Edges.refuse(SOME, "put(" + bad + ", 0, 0)", UNKNOWN);
        for (String bad : new String[] {"-1", "9", "MIN", "MAX"}) Edges.refuse(SOME, "put(1, " + bad + ", 0)", UNKNOWN);
        Edges.refuse(SOME, "put(2, 9, 0)", UNKNOWN);
        Edges.refuse("", "put(0, 0, 0)", UNKNOWN);
        Edges.refuse(ALL, "put(5, 0, 0)", UNKNOWN);
        Edges.refuse(ALL, "put(4, 16, 0)", UNKNOWN);
    }

    @Says(promise = 13, value = "OUTSIDE")
    static void putBegunBeyond1000() {
        for (String bad : new String[] {"-1", "1001", "MIN", "MAX"}) Edges.refuse(SOME, "put(0, 0, " + bad + ")", OUTSIDE);
    }

    @Says(promise = 13, value = "UNKNOWN; OUTSIDE")
    static void putWithTwoFaultsAtOnce() {
        for (String bad : new String[] {"2, 0, 1001", "-1, 0, -1", "0, 9, 1001", "0, -1, -1", "2, 9, 1001"}) Edges.refuse(SOME, "put(" + bad + ")", UNKNOWN);
    }

    // ---- 14

    @Says(promise = 14, value = {"A PICK: its number", "PICKS (12 at most) are of an EAR, a SHAKE, a KIND"})
    static void twelvePicks() {
        Life x = Edges.life("ground(2, 2); ear(1); ear(3); shake(0, 0); shake(3, 100); pick(0, 0, 0, 0, 0)=0; pick(1, 1, 1, 0, 0)=1; pick(0, 1, 1, 0, 0)=2");
        x.tell("of(0, 0)=20; of(1, 0)=100; of(2, 0)=134; pick(0, 0, 0, 0, 0)=3");
        for (int i = 4; i < 12; i++) x.tell("pick(1, 0, 0, 1, 2)=" + i);
        x.tell("count(4)=12; count(5)=12; of(11, 0)=40; of(12, 0)=UNKNOWN");
    }

    @Says(promise = 14, value = "with a span from lo to hi (0 .. 3000)")
    static void pickSpansFrom0To3000() {
        Edges.life(PAIR + "; pick(0, 0, 0, 0, 3000)=0; of(0, 2)=0; of(0, 3)=3000; pick(0, 0, 0, 0, 0)=1; of(1, 3)=0; pick(0, 0, 0, 3000, 3000)=2; of(2, 2)=3000");
        Edges.life(PAIR + "; pick(0, 0, 0, 7, 7)=0; of(0, 2)=7; of(0, 3)=7; pick(0, 0, 0, 2999, 3000)=1");
    }

    @Says(promise = 14, value = "FULL: PICKS, tellings")
    static void noThirteenthPick() {
        Edges.refuse(PAIR + times(12, "pick(0, 0, 0, 5, 6)"), "pick(0, 0, 0, 5, 6)", FULL);
        Edges.refuse(ALL, "pick(5, 4, 1, 0, 3000)", FULL);
    }

    @Says(promise = 14, value = {"FULL: PICKS, tellings", "(40 tellings in all at most, each PICK's first one too)"})
    static void noPickWithout41stTelling() {
        String one = PAIR + "; pick(0, 0, 0, 5, 6)";
        Edges.life(one + times(38, "tell(0, 6, 7)")).tell("count(5)=39; pick(0, 0, 0, 8, 9)=1; count(5)=40; pick(0, 0, 0, 8, 9)=FULL; count(4)=2; of(1, 3)=9");
        Edges.refuse(one + times(39, "tell(0, 6, 7)"), "pick(0, 0, 0, 8, 9)", FULL);
    }

    @Says(promise = 14, value = "UNKNOWN")
    static void pickOfNoEarOrNoShake() {
        for (String bad : new String[] {"-1", "3", "MIN", "MAX"}) Edges.refuse(SOME, "pick(" + bad + ", 0, 0, 0, 0)", UNKNOWN);
        for (String bad : new String[] {"-1", "2", "MIN", "MAX"}) Edges.refuse(SOME, "pick(0, " + bad + ", 0, 0, 0)", UNKNOWN);
        Edges.refuse(SOME, "pick(3, 2, 0, 0, 0)", UNKNOWN);
        Edges.life(SOME).tell("pick(2, 1, 0, 0, 0)=3; pick(0, 0, 1, 0, 0)=4");
    }

    @Says(promise = 14, value = "OUTSIDE: kind, lo above hi, span")
    static void pickOfNoKindOrNoSpan() {
        for (String bad : new String[] {"-1", "2", "MIN", "MAX"}) Edges.refuse(SOME, "pick(0, 0, " + bad + ", 0, 0)", OUTSIDE);
        for (String bad : new String[] {"1, 0", "3000, 2999", "-1, 0", "-1, -1", "3000, 3001", "3001, 3001", "0, 3001", "-1, 3001", "3001, 0",
            "MIN, MAX", "MAX, MIN", "MIN, MIN", "MAX, MAX", "0, MAX", "MIN, 3000", "0, -1"}) {
            Edges.refuse(SOME, "pick(0, 0, 0, " + bad + ")", OUTSIDE);
        }
        Edges.refuse(SOME, "pick(0, 0, 2, 1, 0)", OUTSIDE);
    }

    @Says(promise = 14, value = "UNKNOWN; OUTSIDE: kind, lo above hi, span; FULL: PICKS, tellings")
    static void pickWithTwoFaultsAtOnce() {
        for (String bad : new String[] {"3, 0, 2, 0, 0", "0, 2, 0, 1, 0", "-1, -1, 0, 0, 3001"}) Edges.refuse(SOME, "pick(" + bad + ")", UNKNOWN);
        for (String bad : new String[] {"6, 0, 0, 0, 0", "0, 5, 0, 0, 0", "6, 5, 2, 1, 0"}) Edges.refuse(ALL, "pick(" + bad + ")", UNKNOWN);
        for (String bad : new String[] {"0, 0, 2, 0, 0", "0, 0, -1, 0, 0", "0, 0, 0, 1, 0", "0, 0, 0, 0, 3001", "0, 0, 0, -1, 0"}) Edges.refuse(ALL, "pick(" + bad + ")", OUTSIDE);
        String told = PAIR + "; pick(0, 0, 0, 5, 6)" + times(39, "tell(0, 6, 7)");
        Edges.refuse(told, "pick(1, 0, 0, 0, 0)", UNKNOWN);
        Edges.refuse(told, "pick(0, 0, 0, 1, 0)", OUTSIDE);
    }

    // ---- 15

    @Says(promise = 15, value = {"A PICK is told anew: how many tellings there are", "A PICK may be told anew: from THE DAY on it has another span"})
    static void tellAnew() {
        Life x = Edges.life(PAIR + "; pick(0, 0, 0, 5, 6); pick(0, 0, 0, 7, 8); count(5)=2; tell(0, 0, 3000)=3; of(0, 2)=0; of(0, 3)=3000; of(1, 2)=7; of(1, 3)=8");
        x.tell("tell(1, 3000, 3000)=4; of(1, 2)=3000; tell(1, 0, 0)=5; of(1, 3)=0; of(0, 3)=3000; count(4)=2");
    }

    @Says(promise = 15, value = {"from THE DAY on it has another span", "AS OF a DAY it has that of its last telling by then, if there is any"})
    static void toldFromTheDayOn() {
        Life x = Edges.life(PAIR + "; pick(0, 0, 0, 25, 30); days(1); tell(0, 28, 30); days(1); tell(0, 21, 30); tell(0, 24, 30); days(1)");
        x.tell("misfit(0, 0)=5; misfit(1, 0)=8; misfit(2, 0)=4; misfit(3, 0)=4; of(0, 2)=24; of(0, 1)=4");
    }

    @Says(promise = 15, value = {"FULL", "(40 tellings in all at most, each PICK's first one too)"})
    static void no41stTelling() {
        String rows = PAIR + times(3, "pick(0, 0, 0, 5, 6)") + times(36, "tell(2, 6, 7)");
        Edges.life(rows).tell("count(5)=39; tell(1, 9, 9)=40; of(1, 2)=9; tell(1, 8, 8)=FULL; of(1, 2)=9; count(5)=40");
        Edges.refuse(rows + "; tell(0, 1, 1)", "tell(0, 2, 2)", FULL);
        Edges.refuse(ALL, "tell(11, 0, 3000)", FULL);
    }

    @Says(promise = 15, value = "UNKNOWN")
    static void tellNoPick() {
        for (String bad : new String[] {"-1", "3", "MIN", "MAX"}) Edges.refuse(SOME, "tell(" + bad + ", 0, 0)", UNKNOWN);
        Edges.refuse(PAIR, "tell(0, 0, 0)", UNKNOWN);
        Edges.refuse(SOME + "; ground(3, 3)", "tell(0, 0, 0)", UNKNOWN);
    }

    @Says(promise = 15, value = "OUTSIDE")
    static void tellNoSpan() {
        for (String bad : new String[] {"1, 0", "3000, 2999", "-1, 0", "-1, -1", "3000, 3001", "3001, 3001", "0, 3001", "-1, 3001",
            "MIN, MAX", "MAX, MIN", "MIN, MIN", "MAX, MAX"}) {
            Edges.refuse(SOME, "tell(0, " + bad + ")", OUTSIDE);
        }
    }

    @Says(promise = 15, value = "UNKNOWN; OUTSIDE; FULL")
    static void tellWithTwoFaultsAtOnce() {
        Edges.refuse(SOME, "tell(3, 1, 0)", UNKNOWN);
        Edges.refuse(SOME, "tell(-1, 0, 3001)", UNKNOWN);
        Edges.refuse(ALL, "tell(12, 0, 0)", UNKNOWN);
        Edges.refuse(ALL, "tell(-1, 1, 0)", UNKNOWN);
        Edges.refuse(ALL, "tell(0, 1, 0)", OUTSIDE);
        Edges.refuse(ALL, "tell(0, -1, 0)", OUTSIDE);
        Edges.refuse(ALL, "tell(0, 0, 3001)", OUTSIDE);
    }

    // ---- 16

    @Says(promise = 16, value = {"n DAYS (1 .. 50) go by: THE DAY", "A DAY goes by: THE DAY (0 at first; 500 at most)"})
    static void daysFrom1To50() {
        Edges.life("count(6)=0; days(1)=1; days(50)=51; days(1)=52; count(6)=52; days(49)=101");
    }

    @Says(promise = 16, value = "OUTSIDE: also beyond 500")
    static void daysOf0Or51() {
        for (String bad : new String[] {"0", "51", "-1", "-50", "MIN", "MAX"}) {
            Edges.refuse("", "days(" + bad + ")", OUTSIDE);
            Edges.refuse(SOME, "days(" + bad + ")", OUTSIDE);
            Edges.refuse(ALL, "days(" + bad + ")", OUTSIDE);
        }
    }

    @Says(promise = 16, value = {"OUTSIDE: also beyond 500", "500 at most"})
    static void daysBeyond500() {
        String nine = "days(50)" + times(8, "days(50)");
        Edges.life(nine).tell("count(6)=450; days(50)=500; days(1)=OUTSIDE; count(6)=500; misfit(500, 0)=0; misfit(501, 0)=OUTSIDE");
        Edges.refuse(nine + "; days(1)", "days(50)", OUTSIDE);
        Edges.life(nine + "; days(1)").tell("days(50)=OUTSIDE; days(49)=500");
        Edges.refuse(nine + "; days(49)", "days(2)", OUTSIDE);
        Edges.life(nine + "; days(49)").tell("days(1)=500");
        for (String n : new String[] {"1", "50", "MAX"}) Edges.refuse(nine + "; days(50)", "days(" + n + ")", OUTSIDE);
        Edges.refuse(nine + "; days(50); ground(2, 2)", "days(1)", OUTSIDE);
    }

    // ---- 17

    @Says(promise = 17, value = {"Of a PICK: 0 FORETOLD, 1 OFF, 2 lo, 3 hi, 4 how many CELLS THE WAY has",
        "FORETOLD for a PICK: BEGUN of its SHAKE, TIME from there to its EAR by its KIND, and CLOCK"})
    static void ofAPick() {
        Life x = Edges.life("ground(2, 2); ear(3); shake(0, 100); clock(0, -7); pick(0, 0, 0, 140, 150); pick(0, 0, 1, 150, 160)");
        x.tell("of(0, 0)=133; of(0, 1)=7; of(0, 2)=140; of(0, 3)=150; of(0, 4)=3; of(1, 0)=161; of(1, 1)=1; of(1, 2)=150; of(1, 3)=160; of(1, 4)=3");
        Edges.life(PAIR + "; put(0, 0, 1000); clock(0, 99); slow(0, 60); ratio(30); pick(0, 0, 1, 0, 0); of(0, 0)=1459; of(0, 1)=1459");
        Edges.life("ground(2, 2); ear(0); shake(0, 0); clock(0, -99); pick(0, 0, 0, 3000, 3000); of(0, 0)=-99; of(0, 1)=3099");
        for (int what = 0; what < 5; what++) Edges.onlyAsks(SOME, "of(2, " + what + ")");
    }

    @Says(promise = 17, value = "OFF: how far that is below lo or above hi; 0 within")
    static void ofOffAtBothEnds() {
        Life x = Edges.life(PAIR + "; pick(0, 0, 0, 21, 30)");
        x.tell("of(0, 1)=1; tell(0, 20, 30); of(0, 1)=0; tell(0, 20, 20); of(0, 1)=0; tell(0, 10, 20); of(0, 1)=0; tell(0, 10, 19); of(0, 1)=1; tell(0, 0, 3000); of(0, 1)=0");
        x.tell("tell(0, 3000, 3000); of(0, 1)=2980; tell(0, 0, 0); of(0, 1)=20");
    }

    @Says(promise = 17, value = "4 how many CELLS THE WAY has")
    static void ofHowManyCells() {
        Edges.life("ground(2, 2); ear(0); shake(0, 0); shake(1, 0); pick(0, 0, 0, 0, 0); pick(0, 1, 0, 0, 0); of(0, 4)=1; of(1, 4)=2");
        // Around the slow cells of three by three by kind 0, and through by kind 1, where 4 becomes 7 and 1 stays 1.
        String wall = "ground(3, 3); ratio(19); split(0, 18); split(1, 16); slow(2, 60); slow(0, 1); ear(2); shake(0, 0); pick(0, 0, 0, 0, 0); pick(0, 0, 1, 0, 0)";
        Edges.life(wall).tell("slow(1, 4); of(0, 4)=3; of(1, 4)=7; slow(1, 3); of(1, 4)=3; slow(1, 6); of(0, 4)=7");
        // Of two ways of one time the first one counts, and that may be the one of more cells.
        Edges.life(wall).tell("slow(1, 5); of(0, 4)=3");
        Edges.life("ground(3, 3); split(0, 144); split(1, 16); slow(2, 60); slow(0, 1); slow(1, 5); ear(8); shake(6, 0); pick(0, 0, 0, 0, 0); of(0, 0)=12; of(0, 4)=7");
    }

    @Says(promise = 17, value = "UNKNOWN")
    static void ofNoPick() {
        for (String bad : new String[] {"-1", "3", "MIN", "MAX"}) for (int what = 0; what < 5; what++) Edges.refuse(SOME, "of(" + bad + ", " + what + ")", UNKNOWN);
        Edges.refuse(PAIR, "of(0, 0)", UNKNOWN);
        Edges.refuse(ALL, "of(12, 0)", UNKNOWN);
        Edges.life(ALL).tell("of(11, 3)=377");
    }

    @Says(promise = 17, value = "OUTSIDE")
    static void ofNoWhat() {
        for (String bad : new String[] {"-1", "5", "MIN", "MAX"}) Edges.refuse(SOME, "of(0, " + bad + ")", OUTSIDE);
    }

    @Says(promise = 17, value = "UNKNOWN; OUTSIDE")
    static void ofNoPickAndNoWhat() {
        for (String bad : new String[] {"3, 5", "-1, -1", "3, -1", "MIN, MAX"}) Edges.refuse(SOME, "of(" + bad + ")", UNKNOWN);
    }

    // ---- 18

    @Says(promise = 18, value = {"MISFIT (what 0), how many FIT (1), AS OF a DAY (0 .. THE DAY)", "MISFIT: OFF of all PICKS together", "FIT: they that have OFF 0"})
    static void misfitOfAllPicks() {
        Edges.life(PAIR + "; misfit(0, 0)=0; misfit(0, 1)=0; pick(0, 0, 0, 21, 30); misfit(0, 0)=1; misfit(0, 1)=0; pick(0, 0, 1, 0, 33); misfit(0, 0)=2;"
            + "pick(0, 0, 0, 20, 20); misfit(0, 0)=2; misfit(0, 1)=1; pick(0, 0, 1, 34, 35); misfit(0, 1)=2; misfit(0, 0)=2");
        Edges.onlyAsks(SOME, "misfit(0, 0)");
        Edges.onlyAsks(SOME, "misfit(5, 1)");
    }

    @Says(promise = 18, value = {"AS OF a DAY (0 .. THE DAY)", "AS OF a DAY it has that of its last telling by then, if there is any"})
    static void misfitAsOfADay() {
        Life x = Edges.life(PAIR + "; days(2); pick(0, 0, 0, 25, 30); days(3); pick(0, 0, 1, 30, 33); tell(0, 20, 20); tell(0, 27, 27); days(2); tell(1, 34, 40)");
        x.tell("misfit(0, 0)=0; misfit(0, 1)=0; misfit(1, 0)=0; misfit(2, 0)=5; misfit(2, 1)=0; misfit(4, 0)=5; misfit(5, 0)=8; misfit(5, 1)=0; misfit(6, 0)=8; misfit(7, 0)=7; misfit(7, 1)=1");
        // A pick of no telling yet counts for neither, though anything would fit it later.
        Edges.life(PAIR + "; days(1); pick(0, 0, 0, 0, 3000); misfit(0, 0)=0; misfit(0, 1)=0; misfit(1, 1)=1");
        // All but the spans is as it is now.
        Edges.life(PAIR + "; pick(0, 0, 0, 20, 20); misfit(0, 0)=0; days(1); slow(0, 11); misfit(0, 0)=2; clock(0, -2); misfit(0, 0)=0; put(0, 0, 1); misfit(0, 0)=1; misfit(1, 0)=1");
    }

    @Says(promise = 18, value = "OUTSIDE")
    static void misfitOfNoDayOrNoWhat() {
        for (String bad : new String[] {"-1", "6", "MIN", "MAX"}) for (int what = 0; what < 2; what++) Edges.refuse(SOME, "misfit(" + bad + ", " + what + ")", OUTSIDE);
        for (String bad : new String[] {"-1", "2", "MIN", "MAX"}) Edges.refuse(SOME, "misfit(5, " + bad + ")", OUTSIDE);
        Edges.refuse(SOME, "misfit(6, 2)", OUTSIDE);
        Edges.refuse("", "misfit(1, 0)", OUTSIDE);
        Edges.refuse(ALL, "misfit(501, 0)", OUTSIDE);
    }

    public static void main(String[] args) {
        Edges.run(PicksEdgesTest.class);
    }
}
