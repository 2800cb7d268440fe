import java.util.Random;

/** Long runs of mixed calls, told to the program and to Plain; every answer must be the same. */
public final class ModelTest {
    private static int wrong = 0;
    private static int calls = 0;

    private final Random random;
    private final long seed;
    private final Plain plain = new Plain();
    private final ShakePictures program = new ShakePictures();
    private int made = 0;
    private final StringBuilder told = new StringBuilder();

    private ModelTest(long seed) {
        this.seed = seed;
        this.random = new Random(seed);
    }

    private void same(String call, int due, int got) {
        made++;
        calls++;
        told.append(' ').append(call).append('=').append(due).append(';');
        if (due != got) {
            wrong++;
            if (wrong < 20) System.out.println("seed " + seed + ": " + call + " answered " + got + ", due is " + due + " after" + told);
        }
    }

    /** From low to high, and now and then one beyond or anything. */
    private int near(int low, int high) {
        int what = random.nextInt(40);
        if (what == 0) return low - 1;
        if (what == 1) return high + 1;
        if (what == 2) return random.nextInt();
        if (what == 3) return low;
        if (what == 4) return high;
        return high < low ? high : low + random.nextInt(high - low + 1);
    }

    private int cell() { return near(0, plain.count(0) - 1); }
    private int block() { return near(0, random.nextInt(4) == 0 ? 7 : plain.count(1)); }
    private int ear() { return near(0, plain.count(2) - 1); }
    private int shake() { return near(0, plain.count(3) - 1); }
    private int pick() { return near(0, plain.count(4) - 1); }

    private void ground() {
        int what = random.nextInt(13);
        if (what == 0) {
            int w = near(2, 4), h = near(2, 4);
            if (random.nextInt(4) == 0) same("ground(" + w + ", " + h + ")", plain.ground(w, h), program.ground(w, h));
        } else if (what == 1) {
            int v = near(10, 30);
            same("ratio(" + v + ")", plain.ratio(v), program.ratio(v));
        } else if (what <= 3) {
            int b = block(), v = near(1, random.nextBoolean() ? 60 : 5);
            same("slow(" + b + ", " + v + ")", plain.slow(b, v), program.slow(b, v));
        } else if (what <= 5) {
            splitSome();
        } else if (what == 12) {
            int b = near(0, 7), set = near(0, (1 << plain.count(0)) - 1);
            same("split(" + b + ", " + set + ")", plain.split(b, set), program.split(b, set));
        } else if (what == 6) {
            int one = block(), two = block();
            same("join(" + one + ", " + two + ")", plain.join(one, two), program.join(one, two));
        } else if (what == 7) {
            int c = cell(), which = near(0, 1);
            same("at(" + c + ", " + which + ")", plain.at(c, which), program.at(c, which));
        } else if (what <= 9) {
            int a = cell(), b = cell(), kind = near(0, 1);
            same("time(" + a + ", " + b + ", " + kind + ")", plain.time(a, b, kind), program.time(a, b, kind));
        } else {
            int a = cell(), b = cell(), kind = near(0, 1), i = near(0, 6);
            same("way(" + a + ", " + b + ", " + kind + ", " + i + ")", plain.way(a, b, kind, i), program.way(a, b, kind, i));
        }
    }

    /** Splits a block that has cells, by a set that has some of them more often than not. */
    private void splitSome() {
        int cells = plain.count(0);
        int b = plain.at(random.nextInt(cells), 0), set = random.nextInt(1 << cells);
        same("split(" + b + ", " + set + ")", plain.split(b, set), program.split(b, set));
    }

    /** Many blocks, ears, shakes and picks, with spans about what another picture would make of them. */
    private void buildMuch() {
        int splits = random.nextInt(10);
        for (int i = 0; i < splits; i++) splitSome();
        int ears = 2 + random.nextInt(5), shakes = 1 + random.nextInt(5);
        for (int i = 0; i < ears; i++) {
            int c = random.nextInt(plain.count(0));
            same("ear(" + c + ")", plain.ear(c), program.ear(c));
        }
        for (int i = 0; i < shakes; i++) {
            int c = random.nextInt(plain.count(0)), begun = random.nextInt(50);
            same("shake(" + c + ", " + begun + ")", plain.shake(c, begun), program.shake(c, begun));
        }
        int wide = random.nextInt(3) == 0 ? 0 : random.nextInt(30), most = random.nextBoolean() ? 60 : 12;
        int[] kept = plain.slow.clone(), truth = new int[8];
        for (int b = 0; b < 8; b++) truth[b] = 1 + random.nextInt(most);
        int picks = 4 + random.nextInt(10);
        for (int i = 0; i < picks; i++) {
            int e = random.nextInt(ears), s = random.nextInt(shakes), kind = random.nextInt(4) == 0 ? 1 : 0;
            plain.slow = truth;
            int middle = plain.shakes.get(s).begun() + plain.time(plain.shakes.get(s).cell(), plain.ears.get(e).cell(), kind);
            plain.slow = kept;
            int lo = Math.max(0, Math.min(3000, middle - wide)), hi = Math.min(3000, middle + wide);
            if (random.nextInt(8) == 0) hi = Math.min(3000, lo + random.nextInt(5));
            same("pick(" + e + ", " + s + ", " + kind + ", " + lo + ", " + hi + ")",
                plain.pick(e, s, kind, lo, hi), program.pick(e, s, kind, lo, hi));
        }
    }

    private int[] span(int foretold) {
        if (foretold < 0 || foretold > 3000 || random.nextInt(3) == 0) {
            int lo = near(0, random.nextBoolean() ? 3000 : 200);
            return new int[] {lo, near(Math.min(Math.max(lo, 0), 2900), 3000)};
        }
        int middle = foretold + random.nextInt(41) - 20;
        int lo = Math.min(3000, Math.max(0, middle - random.nextInt(12)));
        return new int[] {lo, Math.max(lo, Math.min(3000, middle + random.nextInt(12)))};
    }

    private void tellAnew() {
        int p = pick();
        int[] span = span(p < 0 || p >= plain.count(4) ? -1 : plain.of(p, 0));
        same("tell(" + p + ", " + span[0] + ", " + span[1] + ")", plain.tell(p, span[0], span[1]), program.tell(p, span[0], span[1]));
    }

    private void telling() {
        int what = random.nextInt(14);
        if (what <= 1) {
            int c = cell();
            same("ear(" + c + ")", plain.ear(c), program.ear(c));
        } else if (what == 2) {
            int e = ear(), v = near(-99, 99);
            same("clock(" + e + ", " + v + ")", plain.clock(e, v), program.clock(e, v));
        } else if (what <= 4) {
            int c = cell(), begun = near(0, random.nextBoolean() ? 1000 : 30);
            same("shake(" + c + ", " + begun + ")", plain.shake(c, begun), program.shake(c, begun));
        } else if (what == 5) {
            int s = shake(), c = cell(), begun = near(0, 1000);
            same("put(" + s + ", " + c + ", " + begun + ")", plain.put(s, c, begun), program.put(s, c, begun));
        } else if (what <= 8) {
            int e = ear(), s = shake(), kind = random.nextInt(3) > 0 ? 0 : near(0, 1);
            int base = e >= 0 && e < plain.ears.size() && s >= 0 && s < plain.shakes.size() && (kind == 0 || kind == 1)
                ? plain.shakes.get(s).begun() + plain.ears.get(e).clock() + plain.time(plain.shakes.get(s).cell(), plain.ears.get(e).cell(), kind) : -1;
            int[] span = span(base);
            same("pick(" + e + ", " + s + ", " + kind + ", " + span[0] + ", " + span[1] + ")",
                plain.pick(e, s, kind, span[0], span[1]), program.pick(e, s, kind, span[0], span[1]));
        } else if (what == 9) {
            tellAnew();
        } else if (what == 10) {
            int n = near(1, 50);
            same("days(" + n + ")", plain.days(n), program.days(n));
        } else if (what <= 12) {
            int p = pick(), which = near(0, 4);
            same("of(" + p + ", " + which + ")", plain.of(p, which), program.of(p, which));
        } else {
            int d = near(0, plain.count(6)), which = near(0, 1);
            same("misfit(" + d + ", " + which + ")", plain.misfit(d, which), program.misfit(d, which));
        }
    }

    private void fitting() {
        switch (random.nextInt(11)) {
            case 0 -> {
                int n = near(1, 10);
                same("fit(" + n + ")", plain.fit(n), program.fit(n));
            }
            case 1, 2 -> {
                int b = block(), which = near(0, 1);
                same("span(" + b + ", " + which + ")", plain.span(b, which), program.span(b, which));
            }
            case 3 -> same("quarrel()", plain.quarrel(), program.quarrel());
            case 4 -> same("rank()", plain.rank(), program.rank());
            case 5, 6 -> {
                int b = block();
                same("resolved(" + b + ")", plain.resolved(b), program.resolved(b));
            }
            case 7 -> {
                int which = near(0, 1);
                same("best(" + which + ")", plain.best(which), program.best(which));
            }
            case 8 -> {
                int s = shake(), c = cell(), which = near(0, 1);
                same("heap(" + s + ", " + c + ", " + which + ")", plain.heap(s, c, which), program.heap(s, c, which));
                if (random.nextInt(3) == 0) same("move(" + s + ")", plain.move(s), program.move(s));
            }
            case 9 -> {
                int e = ear();
                same("off(" + e + ")", plain.off(e), program.off(e));
            }
            default -> {
                int a = near(1, 60), b = near(1, 60), tol = near(0, 20);
                if (random.nextInt(3) == 0) same("board(" + a + ", " + b + ", " + tol + ")", plain.board(a, b, tol), program.board(a, b, tol));
            }
        }
    }

    private String statement() {
        int cells = plain.count(0);
        StringBuilder cellList = new StringBuilder().append(random.nextInt(cells));
        while (random.nextInt(3) > 0) cellList.append(" and ").append(random.nextInt(cells));
        return switch (random.nextInt(5)) {
            case 0 -> "slow " + random.nextInt(8) + " " + near(1, 60);
            case 1 -> "fit " + near(1, 3);
            case 2 -> "move " + shake() + " " + random.nextInt(cells);
            case 3 -> "clock " + ear() + " " + near(0, 99);
            default -> "split " + random.nextInt(3) + " by " + cellList;
        };
    }

    private String spoiled(String text) {
        StringBuilder s = new StringBuilder(text);
        String signs = " ;aznd0159ABbysplit\u0000\u007f\u00ff-.:/@`{";
        int times = random.nextInt(3) == 0 ? 1 + random.nextInt(2) : 0;
        for (int i = 0; i < times && s.length() > 0; i++) {
            int place = random.nextInt(s.length());
            char sign = signs.charAt(random.nextInt(signs.length()));
            switch (random.nextInt(4)) {
                case 0 -> s.setCharAt(place, sign);
                case 1 -> s.insert(place, sign);
                case 2 -> s.deleteCharAt(place);
                default -> s.setLength(place);
            }
        }
        return s.toString();
    }

    private void text() {
        if (random.nextInt(3) > 0) same("erase()", plain.erase(), program.erase());
        StringBuilder s = new StringBuilder(statement());
        while (random.nextInt(2) == 0) s.append(random.nextBoolean() ? ";" : " ; ").append(statement());
        String text = spoiled(s.toString());
        for (int i = 0; i < text.length(); i += 8) {
            int n = Math.min(8, text.length() - i);
            long bytes = random.nextLong();
            for (int k = 0; k < n; k++) bytes = bytes & ~(255L << 8 * k) | (long) text.charAt(i + k) << 8 * k;
            same("write(" + bytes + ", " + n + ")", plain.write(bytes, n), program.write(bytes, n));
        }
        if (random.nextInt(20) == 0) {
            int n = near(1, 8);
            if (n < 1 || n > 8) same("write(7, " + n + ")", plain.write(7L, n), program.write(7L, n));
        }
        same("fault()", plain.fault(), program.fault());
        same("run()", plain.run(), program.run());
    }

    private void lookAtAll() {
        for (int c = 0; c < plain.count(0); c++) {
            same("at(" + c + ", 0)", plain.at(c, 0), program.at(c, 0));
            same("at(" + c + ", 1)", plain.at(c, 1), program.at(c, 1));
        }
        for (int p = 0; p < plain.count(4); p++) {
            for (int what = 0; what <= 4; what++) same("of(" + p + ", " + what + ")", plain.of(p, what), program.of(p, what));
        }
        for (int what = -1; what <= 8; what++) same("count(" + what + ")", plain.count(what), program.count(what));
    }

    private void live() {
        boolean large = random.nextInt(3) == 0;
        if (large) same("ground(4, 4)", plain.ground(4, 4), program.ground(4, 4));
        if (random.nextInt(2) == 0) buildMuch();
        boolean talkative = random.nextInt(10) == 0;
        int until = 60 + random.nextInt(200);
        while (made < until) {
            int what = random.nextInt(20);
            if (talkative && random.nextInt(3) == 0) tellAnew();
            if (what < 6) ground();
            else if (what < 13) telling();
            else if (what < 19) fitting();
            else text();
        }
        lookAtAll();
        if (made > 512) throw new IllegalStateException("an object is promised for 512 calls only: " + made);
    }

    public static void main(String[] args) {
        int lives = args.length > 0 ? Integer.parseInt(args[0]) : 1500;
        for (long seed = 1; seed <= lives; seed++) new ModelTest(seed).live();
        System.out.println(calls + " calls, " + wrong + " wrong");
        if (wrong != 0) System.exit(1);
    }
}
