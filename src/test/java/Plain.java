import java.math.BigInteger;
import java.util.ArrayList;
import java.util.Arrays;
import java.util.List;
import java.util.regex.Matcher;
import java.util.regex.Pattern;

/**
 * The document again, with nothing spared: every way is walked, every slowness, begun, clock and set of picks tried.
 * ModelTest holds the program against it, so it shares no line and no shortcut with the program.
 */
final class Plain {
    static final int NONE = -1, UNKNOWN = -2, OUTSIDE = -3, NOT = -4, FULL = -5;

    record Ear(int cell, int clock) { }
    record Shake(int cell, int begun) { }
    record Pick(int ear, int shake, int kind) { }
    record Telling(int pick, int day, int lo, int hi) { }
    record Token(int place, String text) { }

    int w = 4, h = 3, ratio = 17, day = 0;
    int[] block = new int[12];
    int[] slow = new int[] {10, 10, 10, 10, 10, 10, 10, 10};
    List<Ear> ears = new ArrayList<>();
    List<Shake> shakes = new ArrayList<>();
    List<Pick> picks = new ArrayList<>();
    List<Telling> tellings = new ArrayList<>();
    String text = "";

    private boolean noCell(int c) { return c < 0 || c >= w * h; }
    private boolean noBlock(int b) { return b < 0 || b > 7; }
    private boolean noEar(int e) { return e < 0 || e >= ears.size(); }
    private boolean noShake(int s) { return s < 0 || s >= shakes.size(); }
    private boolean noPick(int p) { return p < 0 || p >= picks.size(); }

    int ground(int nw, int nh) {
        if (nw < 2 || nw > 4 || nh < 2 || nh > 4) return OUTSIDE;
        w = nw;
        h = nh;
        block = new int[w * h];
        Arrays.fill(slow, 10);
        ears.clear();
        shakes.clear();
        picks.clear();
        tellings.clear();
        return w * h;
    }

    int ratio(int v) {
        if (v < 10 || v > 30) return OUTSIDE;
        int was = ratio;
        ratio = v;
        return was;
    }

    int slow(int b, int v) {
        if (noBlock(b)) return UNKNOWN;
        if (v < 1 || v > 60) return OUTSIDE;
        int was = slow[b];
        slow[b] = v;
        return was;
    }

    private int cellsIn(int b) {
        int n = 0;
        for (int x : block) if (x == b) n++;
        return n;
    }

    int split(int b, int cells) {
        if (noBlock(b)) return UNKNOWN;
        if (cells < 0 || cells >= 1 << w * h) return OUTSIDE;
        int in = 0;
        for (int c = 0; c < w * h; c++) if (block[c] == b && (cells & 1 << c) != 0) in++;
        if (in == 0 || in == cellsIn(b)) return NOT;
        int free = 0;
        while (free < 8 && cellsIn(free) > 0) free++;
        if (free == 8) return FULL;
        for (int c = 0; c < w * h; c++) if (block[c] == b && (cells & 1 << c) != 0) block[c] = free;
        slow[free] = slow[b];
        return free;
    }

    int join(int one, int two) {
        if (noBlock(one) || noBlock(two)) return UNKNOWN;
        if (one == two) return OUTSIDE;
        for (int c = 0; c < w * h; c++) if (block[c] == two) block[c] = one;
        return cellsIn(one);
    }

    int at(int cell, int what) {
        if (noCell(cell)) return UNKNOWN;
        if (what != 0 && what != 1) return OUTSIDE;
        return what == 0 ? block[cell] : slow[block[cell]];
    }

    // ---- every way without a cell twice, in the order of its cells

    private int bestTime;
    private List<Integer> bestWay;

    private int has(int cell, int kind) {
        int s = slow[block[cell]];
        return kind == 0 ? s : s * ratio / 10;
    }

    private void walk(List<Integer> way, int took, int end, int kind) {
        int here = way.get(way.size() - 1);
        if (here == end) {
            if (took < bestTime) {
                bestTime = took;
                bestWay = new ArrayList<>(way);
            }
            return;
        }
        if (took >= bestTime) return;
        for (int next = 0; next < w * h; next++) {
            boolean near = Math.abs(next % w - here % w) + Math.abs(next / w - here / w) == 1;
            if (near && !way.contains(next)) {
                way.add(next);
                walk(way, took + has(here, kind) + has(next, kind), end, kind);
                way.remove(way.size() - 1);
            }
        }
    }

    private List<Integer> wayOf(int a, int b, int kind) {
        bestTime = Integer.MAX_VALUE;
        bestWay = null;
        walk(new ArrayList<>(List.of(a)), 0, b, kind);
        return bestWay;
    }

    private int timeOf(int a, int b, int kind) {
        wayOf(a, b, kind);
        return bestTime;
    }

    int time(int a, int b, int kind) {
        if (noCell(a) || noCell(b)) return UNKNOWN;
        if (kind != 0 && kind != 1) return OUTSIDE;
        return timeOf(a, b, kind);
    }

    int way(int a, int b, int kind, int i) {
        if (noCell(a) || noCell(b)) return UNKNOWN;
        if (kind != 0 && kind != 1 || i < 0) return OUTSIDE;
        List<Integer> way = wayOf(a, b, kind);
        return i < way.size() ? way.get(i) : NONE;
    }

    // ---- ears, shakes, picks

    int ear(int cell) {
        if (noCell(cell)) return UNKNOWN;
        if (ears.size() == 6) return FULL;
        ears.add(new Ear(cell, 0));
        return ears.size() - 1;
    }

    int clock(int e, int v) {
        if (noEar(e)) return UNKNOWN;
        if (v < -99 || v > 99) return OUTSIDE;
        ears.set(e, new Ear(ears.get(e).cell, v));
        return 1;
    }

    int shake(int cell, int begun) {
        if (noCell(cell)) return UNKNOWN;
        if (begun < 0 || begun > 1000) return OUTSIDE;
        if (shakes.size() == 5) return FULL;
        shakes.add(new Shake(cell, begun));
        return shakes.size() - 1;
    }

    int put(int s, int cell, int begun) {
        if (noShake(s) || noCell(cell)) return UNKNOWN;
        if (begun < 0 || begun > 1000) return OUTSIDE;
        shakes.set(s, new Shake(cell, begun));
        return 1;
    }

    private static boolean noSpan(int lo, int hi) { return lo < 0 || lo > 3000 || hi < 0 || hi > 3000 || lo > hi; }

    int pick(int e, int s, int kind, int lo, int hi) {
        if (noEar(e) || noShake(s)) return UNKNOWN;
        if (kind != 0 && kind != 1 || noSpan(lo, hi)) return OUTSIDE;
        if (picks.size() == 12 || tellings.size() == 40) return FULL;
        picks.add(new Pick(e, s, kind));
        tellings.add(new Telling(picks.size() - 1, day, lo, hi));
        return picks.size() - 1;
    }

    int tell(int p, int lo, int hi) {
        if (noPick(p)) return UNKNOWN;
        if (noSpan(lo, hi)) return OUTSIDE;
        if (tellings.size() == 40) return FULL;
        tellings.add(new Telling(p, day, lo, hi));
        return tellings.size();
    }

    int days(int n) {
        if (n < 1 || n > 50 || day + n > 500) return OUTSIDE;
        return day += n;
    }

    private Telling told(int p, int asOf) {
        Telling last = null;
        for (Telling t : tellings) if (t.pick == p && t.day <= asOf) last = t;
        return last;
    }

    private int foretold(int p) {
        Pick k = picks.get(p);
        Shake s = shakes.get(k.shake);
        Ear e = ears.get(k.ear);
        return s.begun + quickTime(s.cell, e.cell, k.kind) + e.clock;
    }

    /** The times again, by n rounds over all pairs: fits ask for far too many to walk every way. */
    private int quickTime(int a, int b, int kind) {
        int n = w * h;
        int[] t = new int[n];
        Arrays.fill(t, 1 << 28);
        t[a] = 0;
        for (int round = 0; round < n; round++) {
            boolean same = true;
            for (int c = 0; c < n; c++) {
                if (c % w + 1 < w) same &= !shorten(t, c, c + 1, kind);
                if (c + w < n) same &= !shorten(t, c, c + w, kind);
            }
            if (same) break;
        }
        return t[b];
    }

    private boolean shorten(int[] t, int c, int d, int kind) {
        int step = has(c, kind) + has(d, kind);
        if (t[c] + step < t[d]) {
            t[d] = t[c] + step;
            return true;
        }
        if (t[d] + step < t[c]) {
            t[c] = t[d] + step;
            return true;
        }
        return false;
    }

    private static int off(int f, int lo, int hi) { return f < lo ? lo - f : f > hi ? f - hi : 0; }

    int of(int p, int what) {
        if (noPick(p)) return UNKNOWN;
        Telling t = told(p, day);
        Pick k = picks.get(p);
        return switch (what) {
            case 0 -> foretold(p);
            case 1 -> off(foretold(p), t.lo, t.hi);
            case 2 -> t.lo;
            case 3 -> t.hi;
            case 4 -> wayOf(shakes.get(k.shake).cell, ears.get(k.ear).cell, k.kind).size();
            default -> OUTSIDE;
        };
    }

    int misfit(int d, int what) {
        if (d < 0 || d > day || what != 0 && what != 1) return OUTSIDE;
        int sum = 0, fit = 0;
        for (int p = 0; p < picks.size(); p++) {
            Telling t = told(p, d);
            if (t == null) continue;
            int o = off(foretold(p), t.lo, t.hi);
            sum += o;
            if (o == 0) fit++;
        }
        return what == 0 ? sum : fit;
    }

    // ---- fitting

    private int misfitTo(int[] lo, int[] hi) {
        int sum = 0;
        for (int p = 0; p < picks.size(); p++) sum += off(foretold(p), lo[p], hi[p]);
        return sum;
    }

    private void sweeps(int n, int[] lo, int[] hi) {
        for (int i = 0; i < n; i++) {
            int[] before = slow.clone();
            for (int b = 0; b < 8; b++) {
                if (cellsIn(b) == 0) continue;
                int was = slow[b];
                int[] m = new int[61];
                int least = Integer.MAX_VALUE;
                for (int v = 1; v <= 60; v++) {
                    slow[b] = v;
                    m[v] = misfitTo(lo, hi);
                    least = Math.min(least, m[v]);
                }
                int v = 1;
                while (m[v] != least) v++;
                slow[b] = m[was] == least ? was : v;
            }
            if (Arrays.equals(before, slow)) return;
        }
    }

    int fit(int n) {
        if (n < 1 || n > 10) return OUTSIDE;
        int[] lo = new int[picks.size()], hi = new int[picks.size()];
        for (int p = 0; p < picks.size(); p++) {
            lo[p] = told(p, day).lo;
            hi[p] = told(p, day).hi;
        }
        sweeps(n, lo, hi);
        return misfitTo(lo, hi);
    }

    int board(int a, int b, int tol) {
        if (a < 1 || a > 60 || b < 1 || b > 60 || tol < 0 || tol > 20) return OUTSIDE;
        int[] kept = slow.clone();
        for (int i = 0; i < 8; i++) slow[i] = i % 2 == 0 ? a : b;
        int[] lo = new int[picks.size()], hi = new int[picks.size()];
        for (int p = 0; p < picks.size(); p++) {
            lo[p] = foretold(p) - tol;
            hi[p] = foretold(p) + tol;
        }
        Arrays.fill(slow, (a + b) / 2);
        sweeps(10, lo, hi);
        int found = 0;
        for (int i = 0; i < 8; i++) if (cellsIn(i) > 0 && slow[i] == (i % 2 == 0 ? a : b)) found++;
        slow = kept;
        return found;
    }

    private int[] ray(int from, int to) {
        int[] row = new int[8];
        List<Integer> way = wayOf(from, to, 0);
        for (int i = 0; i + 1 < way.size(); i++) {
            row[block[way.get(i)]]++;
            row[block[way.get(i + 1)]]++;
        }
        return row;
    }

    private int[] rayOf(int p) {
        Pick k = picks.get(p);
        return ray(shakes.get(k.shake).cell, ears.get(k.ear).cell);
    }

    /** The spans (least, greatest) by a set of picks; null: they quarrel. Each bound is looked for one by one. */
    private int[][] pressed(int set, int[][] rows) {
        int[] lo = new int[8], hi = new int[8];
        Arrays.fill(lo, 1);
        Arrays.fill(hi, 60);
        boolean again = true;
        while (again) {
            again = false;
            for (int p = 0; p < picks.size(); p++) {
                if ((set >> p & 1) == 0 || picks.get(p).kind != 0) continue;
                int ahead = shakes.get(picks.get(p).shake).begun + ears.get(picks.get(p).ear).clock;
                int from = told(p, day).lo - ahead, to = told(p, day).hi - ahead;
                for (int b = 0; b < 8; b++) {
                    if (rows[p][b] == 0) continue;
                    int least = 0, most = 0;
                    for (int o = 0; o < 8; o++) {
                        if (o != b) {
                            least += rows[p][o] * lo[o];
                            most += rows[p][o] * hi[o];
                        }
                    }
                    while (hi[b] >= lo[b] && least + rows[p][b] * hi[b] > to) {
                        hi[b]--;
                        again = true;
                    }
                    while (lo[b] <= hi[b] && most + rows[p][b] * lo[b] < from) {
                        lo[b]++;
                        again = true;
                    }
                    if (lo[b] > hi[b]) return null;
                }
            }
        }
        return new int[][] {lo, hi};
    }

    private int[][] allRows() {
        int[][] rows = new int[picks.size()][];
        for (int p = 0; p < picks.size(); p++) rows[p] = picks.get(p).kind == 0 ? rayOf(p) : null;
        return rows;
    }

    int span(int b, int what) {
        if (noBlock(b)) return UNKNOWN;
        if (what != 0 && what != 1) return OUTSIDE;
        int[][] s = pressed((1 << picks.size()) - 1, allRows());
        return s == null ? NONE : s[what][b];
    }

    int quarrel() {
        int best = 0;
        int[][] rows = allRows();
        for (int set = 1; set < 1 << picks.size(); set++) {
            boolean ofKind0 = true;
            for (int p = 0; p < picks.size(); p++) ofKind0 &= (set >> p & 1) == 0 || picks.get(p).kind == 0;
            boolean fewer = best == 0 || Integer.bitCount(set) < Integer.bitCount(best);
            if (ofKind0 && fewer && pressed(set, rows) == null) best = set;
        }
        return best;
    }

    private static int rankOf(List<int[]> rays) {
        BigInteger prime = BigInteger.valueOf(2147483647L);
        List<BigInteger[]> rows = new ArrayList<>();
        for (int[] r : rays) {
            BigInteger[] row = new BigInteger[8];
            for (int i = 0; i < 8; i++) row[i] = BigInteger.valueOf(r[i]).mod(prime);
            rows.add(row);
        }
        int rank = 0;
        for (int c = 0; c < 8; c++) {
            int pivot = rank;
            while (pivot < rows.size() && rows.get(pivot)[c].signum() == 0) pivot++;
            if (pivot >= rows.size()) continue;
            BigInteger[] top = rows.get(pivot);
            rows.set(pivot, rows.get(rank));
            rows.set(rank, top);
            BigInteger inverse = top[c].modInverse(prime);
            for (int r = rank + 1; r < rows.size(); r++) {
                BigInteger times = rows.get(r)[c].multiply(inverse);
                for (int i = 0; i < 8; i++) rows.get(r)[i] = rows.get(r)[i].subtract(times.multiply(top[i])).mod(prime);
            }
            rank++;
        }
        return rank;
    }

    private List<int[]> rows() {
        List<int[]> rows = new ArrayList<>();
        for (int p = 0; p < picks.size(); p++) if (picks.get(p).kind == 0) rows.add(rayOf(p));
        return rows;
    }

    private static boolean isResolved(List<int[]> rows, int b) {
        List<int[]> more = new ArrayList<>(rows);
        int[] unit = new int[8];
        unit[b] = 1;
        more.add(unit);
        return rankOf(more) == rankOf(rows);
    }

    int rank() { return rankOf(rows()); }

    int resolved(int b) {
        if (noBlock(b)) return UNKNOWN;
        if (cellsIn(b) == 0) return NONE;
        if (isResolved(rows(), b)) return 2;
        for (int[] row : rows()) if (row[b] > 0) return 1;
        return 0;
    }

    int best(int what) {
        if (what != 0 && what != 1) return OUTSIDE;
        if (shakes.isEmpty()) return NOT;
        int best = -1, most = -1;
        for (int c = 0; c < w * h; c++) {
            List<int[]> rows = rows();
            for (Shake s : shakes) rows.add(ray(s.cell, c));
            int n = 0;
            for (int b = 0; b < 8; b++) if (isResolved(rows, b)) n++;
            if (n > most) {
                most = n;
                best = c;
            }
        }
        return what == 0 ? best : most;
    }

    private int[] heapOf(int s, int cell) {
        List<int[]> spans = new ArrayList<>();
        for (int p = 0; p < picks.size(); p++) {
            Pick k = picks.get(p);
            if (k.shake != s) continue;
            int known = quickTime(cell, ears.get(k.ear).cell, k.kind) + ears.get(k.ear).clock;
            spans.add(new int[] {told(p, day).lo - known, told(p, day).hi - known});
        }
        int most = -1, begun = -1;
        for (int t = 0; t <= 1000; t++) {
            int n = 0;
            for (int[] span : spans) if (span[0] <= t && t <= span[1]) n++;
            if (n > most) {
                most = n;
                begun = t;
            }
        }
        return new int[] {most, begun};
    }

    int heap(int s, int cell, int what) {
        if (noShake(s) || noCell(cell)) return UNKNOWN;
        if (what != 0 && what != 1) return OUTSIDE;
        return heapOf(s, cell)[what];
    }

    int move(int s) {
        if (noShake(s)) return UNKNOWN;
        if (picks.stream().noneMatch(k -> k.shake == s)) return NOT;
        int best = 0;
        for (int c = 1; c < w * h; c++) if (heapOf(s, c)[0] > heapOf(s, best)[0]) best = c;
        shakes.set(s, new Shake(best, heapOf(s, best)[1]));
        return best;
    }

    int off(int e) {
        if (noEar(e)) return -102;
        Ear was = ears.get(e);
        int best = -100, most = -1;
        for (int v = -99; v <= 99; v++) {
            ears.set(e, new Ear(was.cell, v));
            int n = 0;
            for (int p = 0; p < picks.size(); p++) if (picks.get(p).ear == e && of(p, 1) == 0) n++;
            if (n > most || n == most && Math.abs(v) < Math.abs(best)) {
                most = n;
                best = v;
            }
        }
        ears.set(e, was);
        return best;
    }

    // ---- runs

    int write(long bytes, int n) {
        if (n < 1 || n > 8) return OUTSIDE;
        if (text.length() + n > 160) return FULL;
        for (int i = 0; i < n; i++) text += (char) (bytes >> 8 * i & 255);
        return text.length();
    }

    int erase() {
        int had = text.length();
        text = "";
        return had;
    }

    private List<Token> tokens() {
        List<Token> list = new ArrayList<>();
        Matcher m = Pattern.compile("[a-z]+|[0-9]+|[^ ]", Pattern.DOTALL).matcher(text);
        while (m.find()) list.add(new Token(m.start(), m.group()));
        return list;
    }

    /** What may stand after the words of a statement so far; letters B V N S C E T stand for numbers, $ for its end. */
    private static String[] mayFollow(List<String> kinds) {
        String so = String.join(" ", kinds);
        if (so.isEmpty()) return new String[] {"slow", "fit", "move", "clock", "split"};
        if (so.equals("slow")) return new String[] {"B"};
        if (so.equals("slow B")) return new String[] {"V"};
        if (so.equals("fit")) return new String[] {"N"};
        if (so.equals("move")) return new String[] {"S"};
        if (so.equals("move S")) return new String[] {"C"};
        if (so.equals("clock")) return new String[] {"E"};
        if (so.equals("clock E")) return new String[] {"T"};
        if (so.equals("split")) return new String[] {"B"};
        if (so.equals("split B")) return new String[] {"by"};
        if (so.endsWith("by") || so.endsWith("and")) return new String[] {"C"};
        if (so.startsWith("split")) return new String[] {"and", "$"};
        return new String[] {"$"};
    }

    private boolean fits(String token, String kind) {
        if (kind.length() > 1) return token.equals(kind);
        if (kind.equals("$")) return token.equals(";");
        if (!token.matches("[0-9]{1,4}")) return false;
        int v = Integer.parseInt(token);
        return switch (kind) {
            case "B" -> v <= 7;
            case "V" -> v >= 1 && v <= 60;
            case "N" -> v >= 1 && v <= 10;
            case "S" -> v < shakes.size();
            case "C" -> v < w * h;
            case "E" -> v < ears.size();
            default -> v <= 99;
        };
    }

    int fault() {
        List<String> kinds = new ArrayList<>();
        for (Token t : tokens()) {
            String found = null;
            for (String kind : mayFollow(kinds)) if (fits(t.text, kind)) found = kind;
            if (found == null) return t.place;
            if (found.equals("$")) kinds.clear();
            else kinds.add(found);
        }
        return Arrays.asList(mayFollow(kinds)).contains("$") ? NONE : text.length();
    }

    int run() {
        if (fault() != NONE) return NOT;
        int[] blocks = block.clone(), slows = slow.clone();
        List<Ear> keptEars = new ArrayList<>(ears);
        List<Shake> keptShakes = new ArrayList<>(shakes);
        int done = 0;
        for (String statement : text.split(";")) {
            List<Integer> n = new ArrayList<>();
            Matcher m = Pattern.compile("[0-9]+").matcher(statement);
            while (m.find()) n.add(Integer.parseInt(m.group()));
            if (!obey(statement.trim(), n)) {
                block = blocks;
                slow = slows;
                ears = keptEars;
                shakes = keptShakes;
                return NOT;
            }
            done++;
        }
        return done;
    }

    private boolean obey(String statement, List<Integer> n) {
        if (statement.startsWith("slow")) return slow(n.get(0), n.get(1)) >= 0;
        if (statement.startsWith("fit")) return fit(n.get(0)) >= 0;
        if (statement.startsWith("clock")) return clock(n.get(0), n.get(1)) >= 0;
        if (statement.startsWith("move")) return put(n.get(0), n.get(1), shakes.get(n.get(0)).begun) >= 0;
        int set = 0;
        for (int c : n.subList(1, n.size())) set |= 1 << c;
        return split(n.get(0), set) >= 0;
    }

    int count(int what) {
        int used = 0;
        for (int b = 0; b < 8; b++) if (cellsIn(b) > 0) used++;
        int[] all = {w * h, used, ears.size(), shakes.size(), picks.size(), tellings.size(), day, text.length()};
        return what < 0 || what > 7 ? OUTSIDE : all[what];
    }
}
