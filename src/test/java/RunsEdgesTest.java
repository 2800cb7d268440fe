/** Promises 29 to 33, sentence by sentence: the text, its faults, runs and counts, at their edges. */
public final class RunsEdgesTest {
    private static final int NONE = -1, OUTSIDE = -3, NOT = -4, FULL = -5;
    private static final String SOME = Edges.SOME, ALL = Edges.ALL;
    /** Cells 0 to 8, ears 0 and 1, shake 0. */
    private static final String NET = "ground(3, 3); ear(0); ear(8); shake(4, 50)";

    private static String blanks(int n) {
        return " ".repeat(n);
    }

    private static void fault(String text, int place) {
        Life x = Edges.life(NET).say(text);
        Edges.due("fault of \"" + text + "\"", place, x.ask("fault()"));
        if (place != NONE) Edges.due("run of \"" + text + "\"", NOT, x.ask("run()"));
        Edges.due("length of \"" + text + "\"", text.length(), x.ask("count(7)"));
    }

    /** After these rows a run of the text does what the other rows do, and answers how many statements there are. */
    private static void runIs(String rows, String text, int statements, String others) {
        String said = rows + Life.written(text);
        Edges.life(said).tell("run()=" + statements);
        Edges.same(said + "; run()", said + "; " + others);
    }

    // ---- 29

    @Says(promise = 29, value = "n (1 .. 8) bytes more of THE TEXT, byte i being bytes >> 8 i & 255: how many it has")
    static void writeOneToEight() {
        for (int n = 1; n <= 8; n++) Edges.life("write(0, " + n + ")=" + n + "; count(7)=" + n + "; write(0, " + n + ")=" + 2 * n);
        // The least byte comes first; what lies beyond n is not looked at; 48 is the digit 0, 50 the digit 2.
        String fit1 = "write(" + Life.bytes("fit 1");
        Edges.life(fit1 + ", 5)=5; fault()=NONE; write(48, 1)=6; fault()=NONE; write(48, 1)=7; fault()=4");
        Edges.life(fit1 + ", 4)=4; fault()=4; write(50, 1)=5; fault()=NONE; erase(); write(50, 1); " + fit1 + ", 3); fault()=0");
        Edges.life("write(-256, 1)=1; write(-1, 8)=9; fault()=0; erase()=9; write(-9223372036854775808, 8)=8; fault()=0");
    }

    @Says(promise = 29, value = "byte i being bytes >> 8 i & 255")
    static void writeTheEighthByte() {
        // Seven blanks and a byte that begins with a one: 255 is a sign that cannot stand there.
        Edges.life("write(" + Life.bytes(blanks(7) + "\u00ff") + ", 8)=8; fault()=7");
        Edges.life("write(" + Life.bytes(blanks(7) + "\u0080") + ", 8)=8; fault()=7");
        Edges.life("write(" + Life.bytes(blanks(8)) + ", 8)=8; fault()=8");
        Edges.life("write(" + Life.bytes(blanks(7) + ";") + ", 8)=8; fault()=7");
    }

    @Says(promise = 29, value = "OUTSIDE")
    static void writeNoneOrNine() {
        for (String bad : new String[] {"0", "9", "-1", "MIN", "MAX"}) {
            Edges.refuse("", "write(32, " + bad + ")", OUTSIDE);
            Edges.refuse(SOME, "write(32, " + bad + ")", OUTSIDE);
        }
    }

    @Says(promise = 29, value = {"FULL", "THE TEXT is a row of bytes, 160 at most"})
    static void writeBeyond160() {
        String all = "fit 1" + blanks(147), eight = "write(" + Life.bytes(blanks(8));
        Edges.life("ear(0)" + Life.written(all)).tell("count(7)=152; " + eight + ", 8)=160; fault()=NONE; run()=1; write(32, 1)=FULL; count(7)=160");
        Edges.refuse(Life.written(all + blanks(1)), eight + ", 8)", FULL);
        Edges.life(Life.written(all + blanks(1))).tell("write(32, 8)=FULL; count(7)=153; " + eight + ", 7)=160");
        Edges.refuse(Life.written(all + blanks(7)), "write(32, 2)", FULL);
        Edges.life(Life.written(all + blanks(7))).tell("write(32, 1)=160; run()=1");
        for (int n = 1; n <= 8; n++) Edges.refuse(Life.written(all + blanks(8)), "write(0, " + n + ")", FULL);
        // None of the bytes that do not all fit is taken.
        Edges.life(Life.written(blanks(154) + "fit 1")).tell("count(7)=159; write(" + Life.bytes("xx") + ", 2)=FULL; fault()=NONE; run()=1; write(48, 1)=160; fault()=NONE");
    }

    @Says(promise = 29, value = "OUTSIDE; FULL")
    static void writeNineWithoutRoom() {
        for (String bad : new String[] {"0", "9", "-1", "MIN", "MAX"}) Edges.refuse(ALL, "write(32, " + bad + ")", OUTSIDE);
    }

    // ---- 30

    @Says(promise = 30, value = "THE TEXT is empty: how many bytes it had")
    static void eraseNoneOneOrAll() {
        Edges.life("erase()=0; count(7)=0; write(32, 1); erase()=1; count(7)=0; erase()=0; fault()=0; run()=NOT");
        Life x = Edges.life(ALL).tell("erase()=160; count(7)=0; erase()=0");
        for (int i = 1; i <= 20; i++) x.tell("write(" + Life.bytes(blanks(8)) + ", 8)=" + 8 * i);
        x.tell("fault()=160; write(32, 1)=FULL; erase()=160");
        // Nothing of what was there comes back.
        Edges.life(NET).say("fit 1; fit 2").tell("erase()=12; write(" + Life.bytes("fit ") + ", 4)=4; fault()=4; write(51, 1)=5; fault()=NONE; run()=1");
        Edges.same(NET, NET + Life.written("slow 0 5") + "; erase()");
    }

    // ---- 31

    @Says(promise = 31, value = {"The place of the FAULT (the byte with which the TOKEN begins, or the length); NONE", "or at the end, if it comes too soon"})
    static void faultAtTheEnd() {
        fault("", 0);
        fault(" ", 1);
        fault(blanks(160), 160);
        fault("fit", 3);
        fault("fit ", 4);
        fault("fit 1;", 6);
        fault("fit 1 ; ", 8);
        fault("slow", 4);
        fault("slow 0", 6);
        fault("slow 0  ", 8);
        fault("move", 4);
        fault("move 0", 6);
        fault("clock", 5);
        fault("clock 1", 7);
        fault("split", 5);
        fault("split 0", 7);
        fault("split 0 by", 10);
        fault("split 0 by 3 and", 16);
        fault("split 0 by 3 and ", 17);
        fault(blanks(157) + "fit", 160);
        fault(blanks(154) + "fit 1;", 160);
    }

    @Says(promise = 31, value = {"slow B V. fit N. move S C. clock E V. split B by C, or by C and C and C .. ", "each one of"})
    static void faultInNone() {
        String[] good = {"slow 0 1", "fit 1", "move 0 0", "clock 0 0", "split 0 by 0", "split 0 by 0 and 1", "split 7 by 8 and 0 and 8",
            "split 0 by 0 and 1 and 2 and 3 and 4 and 5 and 6 and 7 and 8", "fit 1;fit 1", "fit 1 ; fit 1", "slow 0 1;fit 1;move 0 0;clock 0 0;split 0 by 0"};
        for (String text : good) fault(text, NONE);
        fault(blanks(155) + "fit 1", NONE);
        fault("fit 1" + blanks(155), NONE);
        StringBuilder cells = new StringBuilder("split 0 by 0");
        while (cells.length() + 6 <= 160) cells.append(" and ").append(cells.length() % 9);
        fault(cells.toString(), NONE);
    }

    @Says(promise = 31, value = {"STATEMENTS with ; (59) between", "A FAULT is at the first TOKEN (a row of letters, a row of digits, any other byte) that cannot stand there"})
    static void faultBetweenStatements() {
        fault(";", 0);
        fault(";fit 1", 0);
        fault("fit 1;;fit 1", 6);
        fault("fit 1; ;fit 1", 7);
        fault("fit 1 fit 1", 6);
        fault("fit 1:fit 1", 5);
        fault("fit 1<fit 1", 5);
        fault("fit 1,fit 1", 5);
        fault("fit 1 1", 6);
        fault("slow 0 1 1", 9);
        fault("move 0 0 0", 9);
        fault("clock 0 0 0", 10);
        fault("split 0 by 0 0", 13);
        fault("fit;1", 3);
        fault("slow 0;1", 6);
    }

    @Says(promise = 31, value = "(a row of letters, a row of digits, any other byte) that cannot stand there")
    static void faultOfAWord() {
        for (String word : new String[] {"slo", "slows", "fi", "fits", "mov", "moves", "cloc", "clocks", "spli", "splits", "by", "and", "a", "z", "join", "f", "xfit"}) {
            fault(word + " 0 1", 0);
            fault("fit 1; " + word + " 0 1", 7);
        }
        for (String text : new String[] {"slow 0 1", "fit 1", "move 0 0", "clock 0 0", "split 0 by 1 and 2"}) {
            for (int i = 0; i < text.length(); i++) {
                if (!Character.isLetter(text.charAt(i))) continue;
                int start = text.lastIndexOf(' ', i) + 1;
                fault(text.substring(0, i) + 'x' + text.substring(i + 1), start);
                fault(text.substring(0, i) + 'x' + text.substring(i), start);
            }
        }
        fault("1 fit", 0);
        fault("split 0 b 1", 8);
        fault("split 0 bys 1", 8);
        fault("split 0 and 1", 8);
        fault("split 0 1", 8);
        fault("split by 1", 6);
        fault("split 0 by by 1", 11);
        fault("split 0 by 1 an 2", 13);
        fault("split 0 by 1 ands 2", 13);
        fault("split 0 by 1 by 2", 13);
        fault("split 0 by 1 and and 2", 17);
        fault("split 0 by and 1", 11);
        fault("split 0 by 1, 2", 12);
        fault("fit by", 4);
        fault("slow slow 0 1", 5);
        fault("slow 0 fit", 7);
        fault("move 0 by", 7);
    }

    @Says(promise = 31, value = {"small letters a .. z", "any other byte"})
    static void faultOfAnotherByte() {
        fault("Fit 1", 0);
        fault("FIT 1", 0);
        fault("fiT 1", 0);
        fault("fit 1.", 5);
        for (int b = 0; b < 256; b++) {
            if (b == ' ') continue;
            boolean letter = b >= 'a' && b <= 'z', digit = b >= '0' && b <= '9';
            char sign = (char) b;
            fault("fit" + sign, letter ? 0 : digit && b != '0' ? NONE : 3);
            fault("fit 1 " + sign, b == ';' ? 7 : 6);
            fault(sign + "fit 1", 0);
            if (!digit) fault("fit 1" + sign, b == ';' ? 6 : 5);
        }
    }

    @Says(promise = 31, value = "(As they are written here, without points; small letters a .. z, numbers of 1 to 4 digits, blanks (32) between.)")
    static void faultAndBlanks() {
        fault("  fit   1  ;  fit    2  ", NONE);
        fault("fit1", NONE);
        fault("split0by1and2;slow0 1;fit1", NONE);
        fault("slow 01", 7);
        fault("fit\t1", 3);
        fault("fit\n1", 3);
        fault("fit 1\u0000", 5);
        fault("fit\u00a01", 3);
        fault("f it 1", 0);
        fault("fit 1 0", 6);
        fault("split 0 b y 1", 8);
    }

    @Says(promise = 31, value = {"numbers of 1 to 4 digits", "a number out of its bounds also"})
    static void faultOfFiveDigits() {
        fault("fit 01", NONE);
        fault("fit 0001", NONE);
        fault("fit 0010", NONE);
        fault("fit 00001", 4);
        fault("fit 00010", 4);
        fault("fit 9999", 4);
        fault("fit 4294967297", 4);
        fault("fit 18446744073709551617", 4);
        fault("slow 0000 0060", NONE);
        fault("slow 00000 0060", 5);
        fault("slow 0000 00060", 10);
        fault("move 0000 0008", NONE);
        fault("move 0 00000", 7);
        fault("clock 0001 0099", NONE);
        fault("clock 0 00000", 8);
        fault("split 0007 by 0008 and 0000", NONE);
        fault("split 0 by 00000", 11);
        fault("split 0 by 0 and 00000", 17);
    }

    @Says(promise = 31, value = "B is a BLOCK, V 1 .. 60 (of a clock 0 .. 99), N 1 .. 10, S a SHAKE, C a CELL, E an EAR")
    static void faultOfANumberOutOfItsBounds() {
        fault("slow 7 1", NONE);
        fault("slow 8 1", 5);
        fault("slow 9999 1", 5);
        fault("slow 0 0", 7);
        fault("slow 0 60", NONE);
        fault("slow 0 61", 7);
        fault("fit 0", 4);
        fault("fit 10", NONE);
        fault("fit 11", 4);
        fault("move 1 0", 5);
        fault("move 0 8", NONE);
        fault("move 0 9", 7);
        fault("clock 1 0", NONE);
        fault("clock 2 0", 6);
        fault("clock 0 99", NONE);
        fault("clock 0 100", 8);
        fault("clock 0 -1", 8);
        fault("split 7 by 0", NONE);
        fault("split 8 by 0", 6);
        fault("split 0 by 8", NONE);
        fault("split 0 by 9", 11);
        fault("split 0 by 8 and 9", 17);
        fault("split 0 by 8 and 16", 17);
    }

    @Says(promise = 31, value = "S a SHAKE, C a CELL, E an EAR")
    static void faultAsThingsAreNow() {
        Edges.life("ground(2, 2)").say("move 0 3").tell("fault()=5; shake(0, 0); fault()=NONE; ground(3, 3); fault()=5; shake(0, 0); fault()=NONE");
        Edges.life("ground(2, 2)").say("clock 5 0").tell("fault()=6; ear(0); ear(0); ear(0); ear(0); ear(0); fault()=6; ear(0); fault()=NONE; ground(2, 2); fault()=6");
        Edges.life("ground(4, 4)").say("split 0 by 15").tell("fault()=NONE; ground(4, 3); fault()=11; ground(2, 2); fault()=11; ground(4, 4); fault()=NONE");
        Edges.life("ground(2, 2); shake(0, 0)").say("move 0 4").tell("fault()=7; ground(3, 2); shake(0, 0); fault()=NONE");
        Edges.life("ground(2, 2); shake(0, 0); shake(0, 0); shake(0, 0); shake(0, 0)").say("move 4 0").tell("fault()=5; shake(0, 0); fault()=NONE");
    }

    @Says(promise = 31, value = "A FAULT is at the first TOKEN")
    static void faultIsTheFirstOne() {
        fault("fit 1; slow 9 99; zzz", 12);
        fault("fit 11; fit 12", 4);
        fault("slow 8 61", 5);
        fault("split 9 by 99", 6);
        fault("fit 1; split 0 by 0 and 9; Z", 24);
        for (String text : new String[] {"fit 1; slow 9 99; zzz", "slow 0 5", "", "split 0 by 0"}) Edges.onlyAsks(NET + Life.written(text), "fault()");
        Edges.onlyAsks(ALL, "fault()");
    }

    // ---- 32

    @Says(promise = 32, value = {"RUN (THE TEXT stays): how many STATEMENTS", "RUN: all STATEMENTS are done in order, as told by slow(), fit(), shake's CELL, clock(), split()"})
    static void runDoesWhatTheCallsDo() {
        String rows = NET + "; pick(0, 0, 0, 100, 110); pick(1, 0, 1, 300, 310)";
        runIs(rows, "slow 0 1", 1, "slow(0, 1)");
        runIs(rows, "slow 7 60", 1, "slow(7, 60)");
        runIs(rows, "fit 1", 1, "fit(1)");
        runIs(rows, "fit 10", 1, "fit(10)");
        runIs(rows, "move 0 8", 1, "put(0, 8, 50)");
        runIs(rows, "clock 1 99", 1, "clock(1, 99)");
        runIs(rows, "clock 0 0", 1, "clock(0, 0)");
        runIs(rows, "split 0 by 8", 1, "split(0, 256)");
        runIs(rows, "split 0 by 0 and 8 and 4 and 8", 1, "split(0, 273)");
        runIs(rows, "slow 0 3; fit 2; move 0 1; clock 1 7; split 0 by 1 and 2; slow 1 60; fit 1; slow 0 2", 8,
            "slow(0, 3); fit(2); put(0, 1, 50); clock(1, 7); split(0, 6); slow(1, 60); fit(1); slow(0, 2)");
        runIs(rows, "slow 0 2; slow 0 3", 2, "slow(0, 3)");
        runIs(rows + "; shake(0, 7)", "move 1 3; move 0 4", 2, "put(1, 3, 7); put(0, 4, 50)");
    }

    @Says(promise = 32, value = "(THE TEXT stays): how many STATEMENTS")
    static void runManyAndAgain() {
        StringBuilder most = new StringBuilder("fit1");
        for (int i = 1; i < 32; i++) most.append(";fit1");
        Edges.life(NET).say(most.toString()).tell("count(7)=159; run()=32; count(7)=159; run()=32");
        Edges.life(NET).say("slow 0 9").tell("run()=1; count(7)=8; slow(0, 5)=9; run()=1; slow(0, 5)=9; fault()=NONE; erase()=8");
        Edges.life(NET).say("split 0 by 0").tell("run()=1; run()=NOT; at(0, 0)=1; count(1)=2; join(0, 1); run()=1");
    }

    @Says(promise = 32, value = "NOT: it has a FAULT, or one is refused")
    static void runOfAFault() {
        Edges.refuse("", "run()", NOT);
        for (String text : new String[] {"", " ", "slow 0 5;", "slow 0 5; fit 11", "slow 0 5; clock 0 9; move 0 8; split 0 by 1; x", "fit 3; fit 00001"}) {
            Edges.refuse(NET + "; pick(0, 0, 0, 100, 110)" + Life.written(text), "run()", NOT);
        }
    }

    @Says(promise = 32, value = {"NOT: it has a FAULT, or one is refused", "if one is refused then (NOT), all is as it was ahead of THE RUN"})
    static void runOfARefusal() {
        String rows = NET + "; clock(1, -9); slow(6, 6); pick(0, 0, 0, 100, 110); pick(1, 0, 1, 300, 310)";
        String[] texts = {"split 1 by 0", "split 7 by 8", "split 0 by 0 and 1 and 2 and 3 and 4 and 5 and 6 and 7 and 8", "slow 0 5; split 1 by 0",
            "slow 6 5; split 1 by 0", "fit 3; split 1 by 0", "clock 1 9; split 1 by 0", "move 0 8; split 1 by 0", "split 0 by 8; split 1 by 8",
            "slow 0 5; slow 6 6; clock 1 9; move 0 2; split 0 by 0; fit 1; split 5 by 0", "split 0 by 0; split 0 by 0; slow 0 3"};
        for (String text : texts) Edges.refuse(rows + Life.written(text), "run()", NOT);
        // As it is then: what was split off in the run itself counts.
        runIs(rows, "split 0 by 1 and 2; split 1 by 2", 2, "split(0, 6); split(1, 4)");
        // Block 0 as the new one is no refusal.
        runIs(rows + "; join(1, 0)", "split 1 by 2; slow 0 7", 2, "split(1, 4); slow(0, 7)");
    }

    @Says(promise = 32, value = {"if one is refused then (NOT), all is as it was ahead of THE RUN", "NOT: it has a FAULT, or one is refused"})
    static void runOfASplitWithoutRoom() {
        StringBuilder seven = new StringBuilder(NET);
        for (int b = 1; b < 7; b++) seven.append("; split(0, ").append(1 << b).append(")");
        String rows = seven.toString();
        runIs(rows, "slow 0 9; split 0 by 0", 2, "slow(0, 9); split(0, 1)");
        Edges.refuse(rows + Life.written("slow 0 9; split 0 by 0; split 0 by 7"), "run()", NOT);
        Edges.refuse(rows + "; split(0, 128)" + Life.written("slow 0 9; split 0 by 0"), "run()", NOT);
    }

    // ---- 33

    @Says(promise = 33, value = "0 CELLS, 1 BLOCKS IN USE, 2 EARS, 3 SHAKES, 4 PICKS, 5 tellings, 6 THE DAY, 7 bytes of THE TEXT")
    static void countNothingAndAll() {
        Edges.life("count(0)=12; count(1)=1; count(2)=0; count(3)=0; count(4)=0; count(5)=0; count(6)=0; count(7)=0");
        Edges.life(ALL).tell("count(0)=16; count(1)=8; count(2)=6; count(3)=5; count(4)=12; count(5)=40; count(6)=500; count(7)=160");
        Edges.life(SOME).tell("count(0)=9; count(1)=2; count(2)=3; count(3)=2; count(4)=3; count(5)=5; count(6)=5; count(7)=53");
        for (int what = 0; what < 8; what++) Edges.onlyAsks(SOME, "count(" + what + ")");
    }

    @Says(promise = 33, value = "1 BLOCKS IN USE")
    static void countBlocksInUse() {
        Edges.life("split(0, 1); count(1)=2; split(0, 2); count(1)=3; join(7, 0); count(1)=3; join(1, 2); count(1)=2; join(7, 1); count(1)=1; at(0, 0)=7");
    }

    @Says(promise = 33, value = "OUTSIDE")
    static void countNoWhat() {
        for (String bad : new String[] {"-1", "8", "MIN", "MAX"}) {
            Edges.refuse("", "count(" + bad + ")", OUTSIDE);
            Edges.refuse(ALL, "count(" + bad + ")", OUTSIDE);
        }
    }

    public static void main(String[] args) {
        Edges.run(RunsEdgesTest.class);
    }
}
