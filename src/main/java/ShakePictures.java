import java.util.Arrays;

/** Pictures by shakes: the promises of shared/DOC.md, call by call. Refusals are answers, never exceptions. */
public final class ShakePictures {
    public static final int NONE = -1, UNKNOWN = -2, OUTSIDE = -3, NOT = -4, FULL = -5;

    private static final int MOST_CELLS = 16;
    private static final int SHORTEST_SIDE = 2, LONGEST_SIDE = 4, SIDES_OF_A_CELL = 4;
    private static final int BLOCKS = 8;
    private static final int QUICKEST = 1, SLOWEST = 60, FIRST_SLOW = 10;
    private static final int LEAST_RATIO = 10, MOST_RATIO = 30, FIRST_RATIO = 17, RATIO_UNIT = 10;
    private static final int KINDS = 2;
    private static final int MOST_EARS = 6, MOST_SHAKES = 5, MOST_PICKS = 12, MOST_TELLINGS = 40;
    private static final int MOST_CLOCK = 99, MOST_BEGUN = 1000, MOST_TOLD = 3000;
    private static final int MOST_DAYS_AT_ONCE = 50, LAST_DAY = 500;
    private static final int MOST_SWEEPS = 10, MOST_TOLERANCE = 20;
    private static final int MOST_BYTES = 160, BYTES_AT_ONCE = 8;
    // off() may answer any clock from -99 to 99, so its refusal lies beyond these.
    private static final int NO_SUCH_EAR = -102;

    private final Ground ground;
    private final Book book;
    private final Fitter fitter;
    private final Rays rays;
    private final Press press;
    private final Resolver resolver;
    private final Finder finder;
    private final Script script;
    private final Memory memory;

    public ShakePictures() {
        Ground newGround = new Ground();
        newGround.lay(4, 3);
        Book newBook = new Book();
        Rays newRays = new Rays(newGround, newBook);
        ground = newGround;
        book = newBook;
        rays = newRays;
        fitter = new Fitter(newGround, newBook);
        press = new Press(newRays, newBook);
        resolver = new Resolver(newGround, newBook, newRays);
        finder = new Finder(newGround, newBook);
        script = new Script(newGround, newBook);
        memory = new Memory(newGround, newBook);
    }

    // ---- the ground

    public int ground(int w, int h) {
        if (!isWithin(w, SHORTEST_SIDE, LONGEST_SIDE) || !isWithin(h, SHORTEST_SIDE, LONGEST_SIDE)) {
            return OUTSIDE;
        }
        ground.lay(w, h);
        book.forgetAll();
        return ground.cells;
    }

    public int ratio(int v) {
        if (!isWithin(v, LEAST_RATIO, MOST_RATIO)) {
            return OUTSIDE;
        }
        int before = ground.ratio;
        ground.ratio = v;
        return before;
    }

    public int slow(int block, int v) {
        if (!isBlock(block)) {
            return UNKNOWN;
        }
        if (!isWithin(v, QUICKEST, SLOWEST)) {
            return OUTSIDE;
        }
        int before = ground.slows[block];
        ground.slows[block] = v;
        return before;
    }

    public int split(int block, int cells) {
        if (!isBlock(block)) {
            return UNKNOWN;
        }
        if ((cells & ~ground.allCells()) != 0) {
            return OUTSIDE;
        }
        return ground.splitBlock(block, cells);
    }

    public int join(int one, int two) {
        if (!isBlock(one) || !isBlock(two)) {
            return UNKNOWN;
        }
        if (one == two) {
            return OUTSIDE;
        }
        ground.moveCells(two, ground.allCells(), one);
        return ground.cellsIn(one);
    }

    public int at(int cell, int what) {
        if (!isCell(cell)) {
            return UNKNOWN;
        }
        if (!isWithin(what, 0, 1)) {
            return OUTSIDE;
        }
        int block = ground.blockOf[cell];
        return what == 0 ? block : ground.slows[block];
    }

    public int time(int a, int b, int kind) {
        if (!isCell(a) || !isCell(b)) {
            return UNKNOWN;
        }
        if (!isKind(kind)) {
            return OUTSIDE;
        }
        ground.spread(a, kind);
        return ground.least[b];
    }

    public int way(int a, int b, int kind, int i) {
        if (!isCell(a) || !isCell(b)) {
            return UNKNOWN;
        }
        if (!isKind(kind) || i < 0) {
            return OUTSIDE;
        }
        ground.spread(b, kind);
        ground.trace(a);
        return i < ground.wayLength ? ground.wayCells[i] : NONE;
    }

    // ---- ears, shakes, picks

    public int ear(int cell) {
        if (!isCell(cell)) {
            return UNKNOWN;
        }
        if (book.ears >= MOST_EARS) {
            return FULL;
        }
        return book.addEar(cell);
    }

    public int clock(int ear, int v) {
        if (!isEar(ear)) {
            return UNKNOWN;
        }
        if (!isWithin(v, -MOST_CLOCK, MOST_CLOCK)) {
            return OUTSIDE;
        }
        book.earClock[ear] = v;
        return 1;
    }

    public int shake(int cell, int begun) {
        if (!isCell(cell)) {
            return UNKNOWN;
        }
        if (!isWithin(begun, 0, MOST_BEGUN)) {
            return OUTSIDE;
        }
        if (book.shakes >= MOST_SHAKES) {
            return FULL;
        }
        return book.addShake(cell, begun);
    }

    public int put(int shake, int cell, int begun) {
        if (!isShake(shake) || !isCell(cell)) {
            return UNKNOWN;
        }
        if (!isWithin(begun, 0, MOST_BEGUN)) {
            return OUTSIDE;
        }
        book.placeShake(shake, cell, begun);
        return 1;
    }

    public int pick(int ear, int shake, int kind, int lo, int hi) {
        if (!isEar(ear) || !isShake(shake)) {
            return UNKNOWN;
        }
        if (!isKind(kind) || !isSpan(lo, hi)) {
            return OUTSIDE;
        }
        if (book.picks >= MOST_PICKS || book.tellings >= MOST_TELLINGS) {
            return FULL;
        }
        int number = book.addPick(ear, shake, kind);
        book.addTelling(number, lo, hi);
        return number;
    }

    public int tell(int pick, int lo, int hi) {
        if (!isPick(pick)) {
            return UNKNOWN;
        }
        if (!isSpan(lo, hi)) {
            return OUTSIDE;
        }
        if (book.tellings >= MOST_TELLINGS) {
            return FULL;
        }
        book.addTelling(pick, lo, hi);
        return book.tellings;
    }

    public int days(int n) {
        if (!isWithin(n, 1, MOST_DAYS_AT_ONCE) || book.day + n > LAST_DAY) {
            return OUTSIDE;
        }
        book.day += n;
        return book.day;
    }

    public int of(int pick, int what) {
        if (!isPick(pick)) {
            return UNKNOWN;
        }
        switch (what) {
            case 0:
                return fitter.foretold(pick);
            case 1:
                return missedBy(fitter.foretold(pick), book.lowNow(pick), book.highNow(pick));
            case 2:
                return book.lowNow(pick);
            case 3:
                return book.highNow(pick);
            case 4:
                ground.spread(book.cellOfEar(pick), book.pickKind[pick]);
                ground.trace(book.cellOfShake(pick));
                return ground.wayLength;
            default:
                return OUTSIDE;
        }
    }

    public int misfit(int day, int what) {
        if (!isWithin(day, 0, book.day) || !isWithin(what, 0, 1)) {
            return OUTSIDE;
        }
        int missed = 0;
        int fitting = 0;
        for (int pick = 0; pick < book.picks; pick++) {
            int telling = book.lastTelling(pick, day);
            if (telling >= 0) {
                int miss = missedBy(fitter.foretold(pick), book.tellLow[telling], book.tellHigh[telling]);
                missed += miss;
                fitting += miss == 0 ? 1 : 0;
            }
        }
        return what == 0 ? missed : fitting;
    }

    // ---- fitting

    public int fit(int n) {
        if (!isWithin(n, 1, MOST_SWEEPS)) {
            return OUTSIDE;
        }
        fitter.aimAtTold();
        return fitter.sweep(n);
    }

    public int span(int block, int what) {
        if (!isBlock(block)) {
            return UNKNOWN;
        }
        if (!isWithin(what, 0, 1)) {
            return OUTSIDE;
        }
        rays.gather();
        press.setBounds();
        if (press.quarrels(rays.allRows())) {
            return NONE;
        }
        return what == 0 ? press.slowLow[block] : press.slowHigh[block];
    }

    public int quarrel() {
        rays.gather();
        press.setBounds();
        return rays.picksOf(press.leastQuarrel());
    }

    public int rank() {
        rays.gather();
        resolver.takePicks();
        return resolver.picked.size;
    }

    public int resolved(int block) {
        if (!isBlock(block)) {
            return UNKNOWN;
        }
        if (ground.cellsIn(block) == 0) {
            return NONE;
        }
        rays.gather();
        resolver.takePicks();
        if (resolver.picked.isResolved(block)) {
            return 2;
        }
        return rays.isTouched(block) ? 1 : 0;
    }

    public int best(int what) {
        if (!isWithin(what, 0, 1)) {
            return OUTSIDE;
        }
        if (book.shakes == 0) {
            return NOT;
        }
        rays.gather();
        resolver.takePicks();
        resolver.findBestEar();
        return what == 0 ? resolver.bestCell : resolver.bestResolved;
    }

    public int heap(int shake, int cell, int what) {
        if (!isShake(shake) || !isCell(cell)) {
            return UNKNOWN;
        }
        if (!isWithin(what, 0, 1)) {
            return OUTSIDE;
        }
        finder.heapUp(shake, cell);
        return what == 0 ? finder.heapSize : finder.heapBegun;
    }

    public int move(int shake) {
        if (!isShake(shake)) {
            return UNKNOWN;
        }
        if (!book.hasPicks(shake)) {
            return NOT;
        }
        return finder.moveShake(shake);
    }

    public int off(int ear) {
        return isEar(ear) ? finder.clockOff(ear) : NO_SUCH_EAR;
    }

    public int board(int a, int b, int tol) {
        if (!isWithin(a, QUICKEST, SLOWEST) || !isWithin(b, QUICKEST, SLOWEST) || !isWithin(tol, 0, MOST_TOLERANCE)) {
            return OUTSIDE;
        }
        memory.keep();
        ground.paintBoard(a, b);
        fitter.aimAtForetold(tol);
        Arrays.fill(ground.slows, (a + b) / 2);
        fitter.sweep(MOST_SWEEPS);
        int found = ground.countAsOnBoard(a, b);
        memory.bringBack();
        return found;
    }

    // ---- runs

    public int write(long bytes, int n) {
        if (!isWithin(n, 1, BYTES_AT_ONCE)) {
            return OUTSIDE;
        }
        if (script.length + n > MOST_BYTES) {
            return FULL;
        }
        script.append(bytes, n);
        return script.length;
    }

    public int erase() {
        int had = script.length;
        script.length = 0;
        return had;
    }

    public int fault() {
        return script.read();
    }

    public int run() {
        if (script.read() != NONE) {
            return NOT;
        }
        memory.keep();
        for (int i = 0; i < script.statements; i++) {
            if (!obey(script.verbs[i], script.firsts[i], script.seconds[i])) {
                memory.bringBack();
                return NOT;
            }
        }
        return script.statements;
    }

    public int count(int what) {
        switch (what) {
            case 0:
                return ground.cells;
            case 1:
                return ground.blocksInUse();
            case 2:
                return book.ears;
            case 3:
                return book.shakes;
            case 4:
                return book.picks;
            case 5:
                return book.tellings;
            case 6:
                return book.day;
            case 7:
                return script.length;
            default:
                return OUTSIDE;
        }
    }

    /** Does one statement whose numbers the script has tested; false if it is refused. */
    private boolean obey(int verb, int first, int second) {
        switch (verb) {
            case Script.SLOW:
                ground.slows[first] = second;
                return true;
            case Script.FIT:
                fitter.aimAtTold();
                fitter.sweep(first);
                return true;
            case Script.MOVE:
                book.shakeCell[first] = second;
                return true;
            case Script.CLOCK:
                book.earClock[first] = second;
                return true;
            default:
                return ground.splitBlock(first, second) >= 0;
        }
    }

    private boolean isCell(int cell) {
        return isWithin(cell, 0, ground.cells - 1);
    }

    private boolean isBlock(int block) {
        return isWithin(block, 0, BLOCKS - 1);
    }

    private boolean isEar(int ear) {
        return isWithin(ear, 0, book.ears - 1);
    }

    private boolean isShake(int shake) {
        return isWithin(shake, 0, book.shakes - 1);
    }

    private boolean isPick(int pick) {
        return isWithin(pick, 0, book.picks - 1);
    }

    private static boolean isKind(int kind) {
        return isWithin(kind, 0, KINDS - 1);
    }

    private static boolean isSpan(int lo, int hi) {
        return lo >= 0 && lo <= hi && hi <= MOST_TOLD;
    }

    private static boolean isWithin(int number, int low, int high) {
        return number >= low && number <= high;
    }

    /** How far a foretold time is from a span; 0 within it. */
    private static int missedBy(int foretold, int low, int high) {
        return Math.max(0, Math.max(low - foretold, foretold - high));
    }

    /** The net of cells with their blocks, and the least times and first ways through it. */
    private static final class Ground {
        // Above any time: 15 steps of twice 180 are 5400.
        static final int FAR = 1000000;

        int cells;
        int ratio = FIRST_RATIO;
        final int[] blockOf = new int[MOST_CELLS];
        final int[] slows = new int[BLOCKS];
        // The cells beside each one in the order of their numbers, NONE where the net ends.
        final int[] beside = new int[MOST_CELLS * SIDES_OF_A_CELL];
        final int[] cost = new int[MOST_CELLS];
        final int[] least = new int[MOST_CELLS];
        final int[] wayCells = new int[MOST_CELLS];
        int wayLength;

        void lay(int width, int height) {
            cells = width * height;
            Arrays.fill(blockOf, 0);
            Arrays.fill(slows, FIRST_SLOW);
            for (int y = 0; y < height; y++) {
                for (int x = 0; x < width; x++) {
                    int cell = width * y + x;
                    int side = cell * SIDES_OF_A_CELL;
                    beside[side] = y > 0 ? cell - width : NONE;
                    beside[side + 1] = x > 0 ? cell - 1 : NONE;
                    beside[side + 2] = x < width - 1 ? cell + 1 : NONE;
                    beside[side + 3] = y < height - 1 ? cell + width : NONE;
                }
            }
        }

        int allCells() {
            return (1 << cells) - 1;
        }

        int cellsOf(int block) {
            int set = 0;
            for (int cell = 0; cell < cells; cell++) {
                if (blockOf[cell] == block) {
                    set |= 1 << cell;
                }
            }
            return set;
        }

        int cellsIn(int block) {
            return Integer.bitCount(cellsOf(block));
        }

        int blocksInUse() {
            int used = 0;
            for (int block = 0; block < BLOCKS; block++) {
                used += cellsOf(block) != 0 ? 1 : 0;
            }
            return used;
        }

        /** The new block, or NOT, or FULL. */
        int splitBlock(int block, int set) {
            int own = cellsOf(block);
            if ((own & set) == 0 || (own & set) == own) {
                return NOT;
            }
            for (int other = 0; other < BLOCKS; other++) {
                if (cellsOf(other) == 0) {
                    moveCells(block, set, other);
                    slows[other] = slows[block];
                    return other;
                }
            }
            return FULL;
        }

        void moveCells(int from, int set, int to) {
            for (int cell = 0; cell < cells; cell++) {
                if (blockOf[cell] == from && (set >> cell & 1) == 1) {
                    blockOf[cell] = to;
                }
            }
        }

        int price(int slowness, int kind) {
            return kind == 0 ? slowness : slowness * ratio / RATIO_UNIT;
        }

        /** Fills `least` with the times between a cell and every cell; they are the same both ways. */
        void spread(int from, int kind) {
            for (int cell = 0; cell < cells; cell++) {
                cost[cell] = price(slows[blockOf[cell]], kind);
                least[cell] = FAR;
            }
            least[from] = 0;
            boolean changed = true;
            // Each pass settles one cell more of every least way, so `cells` passes are enough.
            for (int pass = 0; pass < cells && changed; pass++) {
                changed = false;
                for (int i = 0; i < cells; i++) {
                    // To and fro: times run down the net in one pass and up in the next.
                    int cell = (pass & 1) == 0 ? i : cells - 1 - i;
                    if (pull(cell)) {
                        changed = true;
                    }
                }
            }
        }

        private boolean pull(int cell) {
            boolean changed = false;
            int side = cell * SIDES_OF_A_CELL;
            for (int i = side; i < side + SIDES_OF_A_CELL; i++) {
                int near = beside[i];
                if (near >= 0 && least[near] + cost[near] + cost[cell] < least[cell]) {
                    least[cell] = least[near] + cost[near] + cost[cell];
                    changed = true;
                }
            }
            return changed;
        }

        /** The way from a cell to the one that spread() was called with. */
        void trace(int from) {
            int cell = from;
            wayCells[0] = cell;
            wayLength = 1;
            // A step costs 2 at least, so only the end itself has time 0.
            while (wayLength < cells && least[cell] > 0) {
                cell = nextOnWay(cell);
                wayCells[wayLength] = cell;
                wayLength++;
            }
        }

        private int nextOnWay(int cell) {
            int side = cell * SIDES_OF_A_CELL;
            for (int i = side; i < side + SIDES_OF_A_CELL; i++) {
                int near = beside[i];
                if (near >= 0 && least[near] + cost[near] + cost[cell] == least[cell]) {
                    return near;
                }
            }
            return cell;
        }

        /** Counts the rays of the way that trace() wrote, block by block. */
        void countRays(int[] row) {
            Arrays.fill(row, 0);
            for (int i = 1; i < wayLength; i++) {
                row[blockOf[wayCells[i - 1]]]++;
                row[blockOf[wayCells[i]]]++;
            }
        }

        void paintBoard(int even, int odd) {
            for (int block = 0; block < BLOCKS; block++) {
                slows[block] = onBoard(block, even, odd);
            }
        }

        int countAsOnBoard(int even, int odd) {
            int same = 0;
            for (int block = 0; block < BLOCKS; block++) {
                if (cellsOf(block) != 0 && slows[block] == onBoard(block, even, odd)) {
                    same++;
                }
            }
            return same;
        }

        private static int onBoard(int block, int even, int odd) {
            return (block & 1) == 0 ? even : odd;
        }
    }

    /** What has been told: ears, shakes, picks, and the tellings day by day. */
    private static final class Book {
        int ears;
        final int[] earCell = new int[MOST_EARS];
        final int[] earClock = new int[MOST_EARS];
        int shakes;
        final int[] shakeCell = new int[MOST_SHAKES];
        final int[] shakeBegun = new int[MOST_SHAKES];
        int picks;
        final int[] pickEar = new int[MOST_PICKS];
        final int[] pickShake = new int[MOST_PICKS];
        final int[] pickKind = new int[MOST_PICKS];
        int tellings;
        final int[] tellPick = new int[MOST_TELLINGS];
        final int[] tellDay = new int[MOST_TELLINGS];
        final int[] tellLow = new int[MOST_TELLINGS];
        final int[] tellHigh = new int[MOST_TELLINGS];
        int day;

        /** A new ground has no picks, so their tellings go too; the day goes on. */
        void forgetAll() {
            ears = 0;
            shakes = 0;
            picks = 0;
            tellings = 0;
        }

        int addEar(int cell) {
            earCell[ears] = cell;
            earClock[ears] = 0;
            ears++;
            return ears - 1;
        }

        int addShake(int cell, int begun) {
            placeShake(shakes, cell, begun);
            shakes++;
            return shakes - 1;
        }

        void placeShake(int shake, int cell, int begun) {
            shakeCell[shake] = cell;
            shakeBegun[shake] = begun;
        }

        int addPick(int ear, int shake, int kind) {
            pickEar[picks] = ear;
            pickShake[picks] = shake;
            pickKind[picks] = kind;
            picks++;
            return picks - 1;
        }

        void addTelling(int pick, int low, int high) {
            tellPick[tellings] = pick;
            tellDay[tellings] = day;
            tellLow[tellings] = low;
            tellHigh[tellings] = high;
            tellings++;
        }

        /** The last telling of a pick by a day, or NONE; tellings stand in the order of their days. */
        int lastTelling(int pick, int byDay) {
            for (int i = tellings - 1; i >= 0; i--) {
                if (tellPick[i] == pick && tellDay[i] <= byDay) {
                    return i;
                }
            }
            return NONE;
        }

        int lowNow(int pick) {
            int telling = lastTelling(pick, day);
            return telling >= 0 ? tellLow[telling] : 0;
        }

        int highNow(int pick) {
            int telling = lastTelling(pick, day);
            return telling >= 0 ? tellHigh[telling] : 0;
        }

        int cellOfEar(int pick) {
            return earCell[pickEar[pick]];
        }

        int cellOfShake(int pick) {
            return shakeCell[pickShake[pick]];
        }

        int clockOf(int pick) {
            return earClock[pickEar[pick]];
        }

        int begunOf(int pick) {
            return shakeBegun[pickShake[pick]];
        }

        boolean hasPicks(int shake) {
            for (int pick = 0; pick < picks; pick++) {
                if (pickShake[pick] == shake) {
                    return true;
                }
            }
            return false;
        }
    }

    /** Sweeps over the blocks, to spans that need not be the told ones. */
    private static final class Fitter {
        private final Ground ground;
        private final Book book;
        private final int[] low = new int[MOST_PICKS];
        private final int[] high = new int[MOST_PICKS];
        private final int[] misfitAt = new int[SLOWEST + 1];
        // The picks of one shake and kind, and their times by the slowness of one block.
        private final int[] members = new int[MOST_PICKS];
        private int memberCount;
        private final int[][] times = new int[SLOWEST + 1][MOST_PICKS];
        private final int[] ends = new int[SLOWEST + 1];

        Fitter(Ground ground, Book book) {
            this.ground = ground;
            this.book = book;
        }

        int foretold(int pick) {
            ground.spread(book.cellOfShake(pick), book.pickKind[pick]);
            return book.begunOf(pick) + ground.least[book.cellOfEar(pick)] + book.clockOf(pick);
        }

        void aimAtTold() {
            for (int pick = 0; pick < book.picks; pick++) {
                low[pick] = book.lowNow(pick);
                high[pick] = book.highNow(pick);
            }
        }

        void aimAtForetold(int tolerance) {
            for (int pick = 0; pick < book.picks; pick++) {
                int middle = foretold(pick);
                low[pick] = middle - tolerance;
                high[pick] = middle + tolerance;
            }
        }

        /** Sweeps till nothing changes, at most as often as told; answers the misfit then. */
        int sweep(int atMost) {
            int used = ground.blocksInUse();
            int misfit = 0;
            // Blocks in a row that stand as they would be chosen again; all of them: no sweep changes anything.
            int settled = 0;
            for (int i = 0; i < atMost && settled < used; i++) {
                for (int block = 0; block < BLOCKS && settled < used; block++) {
                    if (ground.cellsOf(block) != 0) {
                        int before = ground.slows[block];
                        misfit = improve(block);
                        settled = ground.slows[block] != before ? 1 : settled + 1;
                        settled = misfit == 0 ? used : settled;
                    }
                }
            }
            return misfit;
        }

        /** Gives a block the slowness with the least misfit; answers that misfit. */
        private int improve(int block) {
            Arrays.fill(misfitAt, 0);
            for (int shake = 0; shake < book.shakes; shake++) {
                for (int kind = 0; kind < KINDS; kind++) {
                    gatherMembers(shake, kind);
                    if (memberCount > 0) {
                        tabulate(block, shake, kind);
                        addMisfits(shake);
                    }
                }
            }
            int choice = ground.slows[block];
            for (int v = QUICKEST; v <= SLOWEST; v++) {
                if (misfitAt[v] < misfitAt[choice]) {
                    choice = v;
                }
            }
            ground.slows[block] = choice;
            return misfitAt[choice];
        }

        private void gatherMembers(int shake, int kind) {
            memberCount = 0;
            for (int pick = 0; pick < book.picks; pick++) {
                if (book.pickShake[pick] == shake && book.pickKind[pick] == kind) {
                    members[memberCount] = pick;
                    memberCount++;
                }
            }
        }

        private void addMisfits(int shake) {
            int begun = book.shakeBegun[shake];
            for (int i = 0; i < memberCount; i++) {
                int pick = members[i];
                int ahead = begun + book.clockOf(pick);
                for (int v = QUICKEST; v <= SLOWEST; v++) {
                    misfitAt[v] += missedBy(ahead + times[v][i], low[pick], high[pick]);
                }
            }
        }

        /**
         * Fills `times` for every slowness of a block. A time is the least of straight lines in the block's price,
         * so it bends one way only: where the middle lies on the line between two ends, all between them does,
         * and need not be measured.
         */
        private void tabulate(int block, int shake, int kind) {
            int before = ground.slows[block];
            int from = book.shakeCell[shake];
            measure(block, QUICKEST, from, kind);
            measure(block, SLOWEST, from, kind);
            int left = QUICKEST;
            int open = 0;
            ends[open] = SLOWEST;
            // Every round either takes an end away or adds one that is a new number between the others.
            for (int round = 0; round < 2 * SLOWEST && open >= 0 && open < SLOWEST; round++) {
                int right = ends[open];
                int middle = (left + right) / 2;
                if (middle > left) {
                    measure(block, middle, from, kind);
                }
                if (middle == left || isStraight(left, middle, right, kind)) {
                    fillLine(left, right, kind);
                    left = right;
                    open--;
                } else {
                    open++;
                    ends[open] = middle;
                }
            }
            ground.slows[block] = before;
        }

        private void measure(int block, int slowness, int from, int kind) {
            ground.slows[block] = slowness;
            ground.spread(from, kind);
            for (int i = 0; i < memberCount; i++) {
                times[slowness][i] = ground.least[book.cellOfEar(members[i])];
            }
        }

        private boolean isStraight(int left, int middle, int right, int kind) {
            int part = ground.price(middle, kind) - ground.price(left, kind);
            int whole = ground.price(right, kind) - ground.price(left, kind);
            for (int i = 0; i < memberCount; i++) {
                int partRise = times[middle][i] - times[left][i];
                int wholeRise = times[right][i] - times[left][i];
                if (partRise * whole != wholeRise * part) {
                    return false;
                }
            }
            return true;
        }

        private void fillLine(int left, int right, int kind) {
            int start = ground.price(left, kind);
            int whole = ground.price(right, kind) - start;
            if (whole <= 0) {
                return;
            }
            for (int v = left + 1; v < right; v++) {
                int part = ground.price(v, kind) - start;
                for (int i = 0; i < memberCount; i++) {
                    // The line's rise is a number of rays, so this divides without rest.
                    int rise = (times[right][i] - times[left][i]) / whole;
                    times[v][i] = times[left][i] + rise * part;
                }
            }
        }
    }

    /** One row of rays for each pick of kind 0, along the ways as they are now. */
    private static final class Rays {
        private final Ground ground;
        private final Book book;
        int rows;
        final int[] pickOf = new int[MOST_PICKS];
        final int[][] row = new int[MOST_PICKS][BLOCKS];

        Rays(Ground ground, Book book) {
            this.ground = ground;
            this.book = book;
        }

        void gather() {
            rows = 0;
            for (int pick = 0; pick < book.picks; pick++) {
                if (book.pickKind[pick] == 0) {
                    ground.spread(book.cellOfEar(pick), 0);
                    ground.trace(book.cellOfShake(pick));
                    ground.countRays(row[rows]);
                    pickOf[rows] = pick;
                    rows++;
                }
            }
        }

        int allRows() {
            return (1 << rows) - 1;
        }

        int picksOf(int rowSet) {
            int set = 0;
            for (int i = 0; i < rows; i++) {
                if ((rowSet >> i & 1) == 1) {
                    set |= 1 << pickOf[i];
                }
            }
            return set;
        }

        boolean isTouched(int block) {
            for (int i = 0; i < rows; i++) {
                if (row[i][block] > 0) {
                    return true;
                }
            }
            return false;
        }
    }

    /** Presses the spans of the blocks by rows of rays. */
    private static final class Press {
        private final Rays rays;
        private final Book book;
        private final int[] sumLow = new int[MOST_PICKS];
        private final int[] sumHigh = new int[MOST_PICKS];
        final int[] slowLow = new int[BLOCKS];
        final int[] slowHigh = new int[BLOCKS];
        private boolean crossed;

        Press(Rays rays, Book book) {
            this.rays = rays;
            this.book = book;
        }

        void setBounds() {
            for (int i = 0; i < rays.rows; i++) {
                int pick = rays.pickOf[i];
                int ahead = book.begunOf(pick) + book.clockOf(pick);
                sumLow[i] = book.lowNow(pick) - ahead;
                sumHigh[i] = book.highNow(pick) - ahead;
            }
        }

        /** The smallest set of rows that quarrels, of several the least by bits; 0 if none does. */
        int leastQuarrel() {
            int all = rays.allRows();
            // More rows press no less: if all together do not quarrel, no set of them does.
            if (!quarrels(all)) {
                return 0;
            }
            for (int size = 1; size < rays.rows; size++) {
                for (int set = 1; set < all; set++) {
                    if (Integer.bitCount(set) == size && quarrels(set)) {
                        return set;
                    }
                }
            }
            return all;
        }

        boolean quarrels(int rowSet) {
            Arrays.fill(slowLow, QUICKEST);
            Arrays.fill(slowHigh, SLOWEST);
            crossed = false;
            boolean changed = true;
            // Every round narrows some span by 1 at least, or is the last one.
            for (int round = 0; round <= BLOCKS * SLOWEST && changed && !crossed; round++) {
                changed = false;
                for (int i = 0; i < rays.rows && !crossed; i++) {
                    if ((rowSet >> i & 1) == 1 && narrow(i)) {
                        changed = true;
                    }
                }
            }
            return crossed;
        }

        /** Presses once by one row, up to the first block that is left no slowness; true if a span changed. */
        private boolean narrow(int i) {
            int[] row = rays.row[i];
            int lowSum = weigh(row, slowLow);
            int highSum = weigh(row, slowHigh);
            boolean changed = false;
            for (int block = 0; block < BLOCKS && !crossed; block++) {
                int ray = row[block];
                if (ray > 0) {
                    int greatest = Math.floorDiv(sumHigh[i] - (lowSum - ray * slowLow[block]), ray);
                    if (greatest < slowHigh[block]) {
                        highSum -= ray * (slowHigh[block] - greatest);
                        slowHigh[block] = greatest;
                        changed = true;
                    }
                    int fewest = -Math.floorDiv(highSum - ray * slowHigh[block] - sumLow[i], ray);
                    if (fewest > slowLow[block]) {
                        lowSum += ray * (fewest - slowLow[block]);
                        slowLow[block] = fewest;
                        changed = true;
                    }
                    crossed = slowLow[block] > slowHigh[block];
                }
            }
            return changed;
        }

        private static int weigh(int[] row, int[] slowness) {
            int sum = 0;
            for (int block = 0; block < BLOCKS; block++) {
                sum += row[block] * slowness[block];
            }
            return sum;
        }
    }

    /** Independent rows modulo a prime, each alone in having its own column. */
    private static final class Basis {
        static final long PRIME = 2147483647L;

        int size;
        private final boolean[] has = new boolean[BLOCKS];
        private final long[][] rowOf = new long[BLOCKS][BLOCKS];
        private final long[] fresh = new long[BLOCKS];

        void clear() {
            size = 0;
            for (int column = 0; column < BLOCKS; column++) {
                has[column] = false;
            }
        }

        void copyFrom(Basis other) {
            size = other.size;
            for (int column = 0; column < BLOCKS; column++) {
                has[column] = other.has[column];
                System.arraycopy(other.rowOf[column], 0, rowOf[column], 0, BLOCKS);
            }
        }

        void add(int[] row) {
            for (int column = 0; column < BLOCKS; column++) {
                fresh[column] = row[column];
            }
            for (int column = 0; column < BLOCKS; column++) {
                if (has[column]) {
                    clearColumn(fresh, rowOf[column], column);
                }
            }
            int own = firstColumn();
            if (own < 0) {
                return;
            }
            for (int column = 0; column < BLOCKS; column++) {
                if (has[column]) {
                    clearColumn(rowOf[column], fresh, own);
                }
            }
            System.arraycopy(fresh, 0, rowOf[own], 0, BLOCKS);
            has[own] = true;
            size++;
        }

        private int firstColumn() {
            for (int column = 0; column < BLOCKS; column++) {
                if (fresh[column] != 0) {
                    return column;
                }
            }
            return NONE;
        }

        /** Makes a row 0 in a column by another that is not; both are only multiplied, so nothing is divided. */
        private static void clearColumn(long[] row, long[] by, int column) {
            long mine = row[column];
            long its = by[column];
            if (mine == 0) {
                return;
            }
            for (int i = 0; i < BLOCKS; i++) {
                row[i] = Math.floorMod(row[i] * its % PRIME - by[i] * mine % PRIME, PRIME);
            }
        }

        /** A row with 1 in this column alone depends on the others just if one of them is a multiple of it. */
        boolean isResolved(int block) {
            if (!has[block]) {
                return false;
            }
            for (int column = 0; column < BLOCKS; column++) {
                if (column != block && rowOf[block][column] != 0) {
                    return false;
                }
            }
            return true;
        }

        int countResolved() {
            int resolved = 0;
            for (int block = 0; block < BLOCKS; block++) {
                resolved += isResolved(block) ? 1 : 0;
            }
            return resolved;
        }
    }

    /** What the picks resolve, and what one ear more would. */
    private static final class Resolver {
        private final Ground ground;
        private final Book book;
        private final Rays rays;
        final Basis picked = new Basis();
        private final Basis tried = new Basis();
        private final int[] row = new int[BLOCKS];
        int bestCell;
        int bestResolved;

        Resolver(Ground ground, Book book, Rays rays) {
            this.ground = ground;
            this.book = book;
            this.rays = rays;
        }

        void takePicks() {
            picked.clear();
            for (int i = 0; i < rays.rows; i++) {
                picked.add(rays.row[i]);
            }
        }

        void findBestEar() {
            bestCell = 0;
            bestResolved = NONE;
            for (int cell = 0; cell < ground.cells; cell++) {
                int resolved = resolvedWith(cell);
                if (resolved > bestResolved) {
                    bestResolved = resolved;
                    bestCell = cell;
                }
            }
        }

        private int resolvedWith(int cell) {
            tried.copyFrom(picked);
            ground.spread(cell, 0);
            for (int shake = 0; shake < book.shakes; shake++) {
                ground.trace(book.shakeCell[shake]);
                ground.countRays(row);
                tried.add(row);
            }
            return tried.countResolved();
        }
    }

    /** Finds where and when a shake was by most picks, and how far a clock is off. */
    private static final class Finder {
        private final Ground ground;
        private final Book book;
        // The numbers from which to which each pick would fit.
        private final int[] from = new int[MOST_PICKS];
        private final int[] to = new int[MOST_PICKS];
        private int spans;
        int heapSize;
        int heapBegun;

        Finder(Ground ground, Book book) {
            this.ground = ground;
            this.book = book;
        }

        void heapUp(int shake, int cell) {
            gatherBegun(shake, cell);
            heapBegun = 0;
            heapSize = countFitting(0);
            // Going up, more picks fit only where the span of one begins.
            for (int i = 0; i < spans; i++) {
                int begun = from[i];
                if (begun > 0 && begun <= MOST_BEGUN) {
                    int size = countFitting(begun);
                    if (size > heapSize || size == heapSize && begun < heapBegun) {
                        heapSize = size;
                        heapBegun = begun;
                    }
                }
            }
        }

        private void gatherBegun(int shake, int cell) {
            spans = 0;
            for (int kind = 0; kind < KINDS; kind++) {
                ground.spread(cell, kind);
                for (int pick = 0; pick < book.picks; pick++) {
                    if (book.pickShake[pick] == shake && book.pickKind[pick] == kind) {
                        addSpan(pick, ground.least[book.cellOfEar(pick)] + book.clockOf(pick));
                    }
                }
            }
        }

        private void addSpan(int pick, int known) {
            from[spans] = book.lowNow(pick) - known;
            to[spans] = book.highNow(pick) - known;
            spans++;
        }

        private int countFitting(int number) {
            int fitting = 0;
            for (int i = 0; i < spans; i++) {
                fitting += number >= from[i] && number <= to[i] ? 1 : 0;
            }
            return fitting;
        }

        int moveShake(int shake) {
            int bestCell = 0;
            int bestSize = NONE;
            int bestBegun = 0;
            for (int cell = 0; cell < ground.cells; cell++) {
                heapUp(shake, cell);
                if (heapSize > bestSize) {
                    bestSize = heapSize;
                    bestCell = cell;
                    bestBegun = heapBegun;
                }
            }
            book.placeShake(shake, bestCell, bestBegun);
            return bestCell;
        }

        int clockOff(int ear) {
            spans = 0;
            for (int pick = 0; pick < book.picks; pick++) {
                if (book.pickEar[pick] == ear) {
                    ground.spread(book.cellOfShake(pick), book.pickKind[pick]);
                    addSpan(pick, book.begunOf(pick) + ground.least[book.earCell[ear]]);
                }
            }
            int best = 0;
            int most = countFitting(0);
            for (int far = 1; far <= MOST_CLOCK; far++) {
                // The lesser one first, for it stays if both fit as many.
                for (int clock = -far; clock <= far; clock += 2 * far) {
                    int fitting = countFitting(clock);
                    if (fitting > most) {
                        most = fitting;
                        best = clock;
                    }
                }
            }
            return best;
        }
    }

    /** The text, and its statements as far as it has been read. */
    private static final class Script {
        static final int SLOW = 0, FIT = 1, MOVE = 2, CLOCK = 3, SPLIT = 4, VERBS = 5;
        private static final int END = 0, WORD = 1, NUMBER = 2, SIGN = 3;
        private static final int BLANK = 32, BETWEEN = 59;
        private static final int MOST_DIGITS = 4;
        // "fit1;" is the shortest one: 160 bytes have 32 of them.
        private static final int MOST_STATEMENTS = 40;

        private final Ground ground;
        private final Book book;
        private final int[] bytes = new int[MOST_BYTES];
        int length;
        // The token being looked at: what it is, where it begins, where it is over.
        private int sort;
        private int start;
        private int over;
        private int number;
        int statements;
        final int[] verbs = new int[MOST_STATEMENTS];
        final int[] firsts = new int[MOST_STATEMENTS];
        final int[] seconds = new int[MOST_STATEMENTS];

        Script(Ground ground, Book book) {
            this.ground = ground;
            this.book = book;
        }

        void append(long more, int n) {
            for (int i = 0; i < n && length < MOST_BYTES; i++) {
                bytes[length] = (int) (more >> 8 * i & 255);
                length++;
            }
        }

        /** Reads the whole text into statements; answers the place of its fault, or NONE. */
        int read() {
            over = 0;
            statements = 0;
            advance();
            while (statements < MOST_STATEMENTS) {
                // A part that is not as it must be leaves its token the one that is looked at.
                if (!readStatement()) {
                    return start;
                }
                statements++;
                if (sort == END) {
                    return NONE;
                }
                if (sort != SIGN || bytes[start] != BETWEEN) {
                    return start;
                }
                advance();
            }
            return start;
        }

        private boolean readStatement() {
            int verb = verbHere();
            if (verb == NONE) {
                return false;
            }
            verbs[statements] = verb;
            advance();
            switch (verb) {
                case SLOW:
                    return readFirst(0, BLOCKS - 1) && readSecond(QUICKEST, SLOWEST);
                case FIT:
                    return readFirst(1, MOST_SWEEPS);
                case MOVE:
                    return readFirst(0, book.shakes - 1) && readSecond(0, ground.cells - 1);
                case CLOCK:
                    return readFirst(0, book.ears - 1) && readSecond(0, MOST_CLOCK);
                default:
                    return readFirst(0, BLOCKS - 1) && readCells();
            }
        }

        private int verbHere() {
            for (int verb = 0; verb < VERBS; verb++) {
                if (isWord(wordOf(verb))) {
                    return verb;
                }
            }
            return NONE;
        }

        private static String wordOf(int verb) {
            switch (verb) {
                case SLOW:
                    return "slow";
                case FIT:
                    return "fit";
                case MOVE:
                    return "move";
                case CLOCK:
                    return "clock";
                default:
                    return "split";
            }
        }

        private boolean readFirst(int low, int high) {
            firsts[statements] = number;
            return passNumber(low, high);
        }

        private boolean readSecond(int low, int high) {
            seconds[statements] = number;
            return passNumber(low, high);
        }

        /** "by" and the cells of a split, as a set by bits. */
        private boolean readCells() {
            int set = 0;
            boolean more = isWord("by");
            if (!more) {
                return false;
            }
            for (int i = 0; i < MOST_BYTES && more; i++) {
                advance();
                int cell = number;
                if (!passNumber(0, ground.cells - 1)) {
                    return false;
                }
                set |= 1 << cell;
                more = isWord("and");
            }
            seconds[statements] = set;
            return true;
        }

        private boolean passNumber(int low, int high) {
            if (sort != NUMBER || number < low || number > high) {
                return false;
            }
            advance();
            return true;
        }

        private boolean isWord(String word) {
            if (sort != WORD || over - start != word.length()) {
                return false;
            }
            for (int i = 0; i < word.length(); i++) {
                if (bytes[start + i] != word.charAt(i)) {
                    return false;
                }
            }
            return true;
        }

        private void advance() {
            start = over;
            while (start < length && bytes[start] == BLANK) {
                start++;
            }
            sort = sortAt(start);
            over = start < length ? start + 1 : start;
            while (sort != SIGN && over < length && sortAt(over) == sort) {
                over++;
            }
            number = sort == NUMBER ? numberHere() : NONE;
        }

        private int sortAt(int place) {
            if (place >= length) {
                return END;
            }
            int b = bytes[place];
            if (b >= 'a' && b <= 'z') {
                return WORD;
            }
            return b >= '0' && b <= '9' ? NUMBER : SIGN;
        }

        /** NONE if it has too many digits, which is out of every bounds. */
        private int numberHere() {
            if (over - start > MOST_DIGITS) {
                return NONE;
            }
            int value = 0;
            for (int i = start; i < over; i++) {
                value = 10 * value + bytes[i] - '0';
            }
            return value;
        }
    }

    /** Keeps what a run or a board may change, to bring it back. */
    private static final class Memory {
        private final Ground ground;
        private final Book book;
        private final int[] blockOf = new int[MOST_CELLS];
        private final int[] slows = new int[BLOCKS];
        private final int[] shakeCell = new int[MOST_SHAKES];
        private final int[] earClock = new int[MOST_EARS];

        Memory(Ground ground, Book book) {
            this.ground = ground;
            this.book = book;
        }

        void keep() {
            System.arraycopy(ground.blockOf, 0, blockOf, 0, MOST_CELLS);
            System.arraycopy(ground.slows, 0, slows, 0, BLOCKS);
            System.arraycopy(book.shakeCell, 0, shakeCell, 0, MOST_SHAKES);
            System.arraycopy(book.earClock, 0, earClock, 0, MOST_EARS);
        }

        void bringBack() {
            System.arraycopy(blockOf, 0, ground.blockOf, 0, MOST_CELLS);
            System.arraycopy(slows, 0, ground.slows, 0, BLOCKS);
            System.arraycopy(shakeCell, 0, book.shakeCell, 0, MOST_SHAKES);
            System.arraycopy(earClock, 0, book.earClock, 0, MOST_EARS);
        }
    }
}
