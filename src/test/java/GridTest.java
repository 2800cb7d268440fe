import java.util.ArrayList;
import java.util.List;
import java.util.Map;
import java.util.TreeMap;

/**
 * Every call with every mixture of numbers at the edges, in states from empty to full, held against Plain: whichever
 * refusals meet, the first of them is answered; what is refused changes nothing, what is done is done in both.
 */
public final class GridTest {
    private static final String[] STATES = {"", "ground(2, 2)", "ground(2, 4); ear(7); shake(0, 1000)", Edges.SOME, Edges.ALL,
        "ear(0); shake(5, 3)" + "; pick(0, 0, 0, 5, 6)".repeat(12), "ear(0); shake(5, 3); pick(0, 0, 0, 50, 60)" + "; tell(0, 6, 7)".repeat(39),
        "ear(0); ear(4); shake(5, 3); pick(0, 0, 0, 5, 6); pick(0, 0, 0, 90, 90); pick(1, 0, 1, 0, 3000)" + "; days(50)".repeat(9) + "; days(49)"};

    private static final int[] BLOCK = {-1, 0, 1, 7, 8}, KIND = {-1, 0, 1, 2}, WHAT = {-1, 0, 1, 2};
    private static final int[] SLOW = {0, 1, 60, 61}, BEGUN = {-1, 0, 1000, 1001}, LOW = {-1, 0, 1500, 3000, 3001}, HIGH = {-1, 0, 1500, 1501, 3000, 3001};
    private static final int[] FAR = {Integer.MIN_VALUE, Integer.MAX_VALUE};
    private static final int BATCH = 150;

    record Due(String call, int answer) { }

    private final String rows;
    private final List<Due> idle = new ArrayList<>();
    private final List<String> done = new ArrayList<>();

    private GridTest(String rows) {
        this.rows = rows;
    }

    private static int[] upTo(int count) {
        return count == 0 ? new int[] {-1, 0, 1} : new int[] {-1, 0, count - 1, count};
    }

    /** For each call the edges of each of its numbers, in this state. */
    private static Map<String, int[][]> edges(Life state) {
        int cells = state.ask("count(0)"), day = state.ask("count(6)");
        int[] cell = upTo(cells), ear = upTo(state.ask("count(2)")), shake = upTo(state.ask("count(3)")), pick = upTo(state.ask("count(4)"));
        int all = 1 << cells;
        int[] set = {-1, 0, 1, 3, all >> 1, all - 1, all, all + 1};
        int[] side = {1, 2, 3, 4, 5}, clock = {-100, -99, 0, 99, 100};
        return new TreeMap<>(Map.ofEntries(
            Map.entry("ground", new int[][] {side, side}), Map.entry("ratio", new int[][] {{9, 10, 30, 31}}), Map.entry("slow", new int[][] {BLOCK, SLOW}),
            Map.entry("split", new int[][] {BLOCK, set}), Map.entry("join", new int[][] {BLOCK, BLOCK}), Map.entry("at", new int[][] {cell, WHAT}),
            Map.entry("time", new int[][] {cell, cell, KIND}), Map.entry("way", new int[][] {cell, cell, KIND, {-1, 0, 1, 16}}),
            Map.entry("ear", new int[][] {cell}), Map.entry("clock", new int[][] {ear, clock}), Map.entry("shake", new int[][] {cell, BEGUN}),
            Map.entry("put", new int[][] {shake, cell, BEGUN}), Map.entry("pick", new int[][] {ear, shake, KIND, LOW, HIGH}),
            Map.entry("tell", new int[][] {pick, LOW, HIGH}), Map.entry("days", new int[][] {{0, 1, 2, 50, 51}}), Map.entry("of", new int[][] {pick, {-1, 0, 1, 2, 3, 4, 5}}),
            Map.entry("misfit", new int[][] {{-1, 0, day, day + 1}, WHAT}), Map.entry("fit", new int[][] {{0, 1, 10, 11}}), Map.entry("span", new int[][] {BLOCK, WHAT}),
            Map.entry("quarrel", new int[][] {}), Map.entry("rank", new int[][] {}), Map.entry("resolved", new int[][] {BLOCK}), Map.entry("best", new int[][] {WHAT}),
            Map.entry("heap", new int[][] {shake, cell, WHAT}), Map.entry("move", new int[][] {shake}), Map.entry("off", new int[][] {ear}),
            Map.entry("board", new int[][] {SLOW, SLOW, {-1, 0, 20, 21}}), Map.entry("write", new int[][] {{32, 59}, {0, 1, 8, 9}}), Map.entry("erase", new int[][] {}),
            Map.entry("fault", new int[][] {}), Map.entry("run", new int[][] {}), Map.entry("count", new int[][] {{-1, 0, 1, 2, 3, 4, 5, 6, 7, 8}})));
    }

    private static void calls(List<String> all, String name, int[][] edges, String soFar, int i) {
        if (i == edges.length) {
            all.add(name + "(" + soFar + ")");
            return;
        }
        String comma = i == 0 ? "" : ", ";
        for (int edge : edges[i]) calls(all, name, edges, soFar + comma + edge, i + 1);
        // Numbers far out once for each place, beside whatever stands ahead.
        for (int far : FAR) if (edges.length < 4) calls(all, name, edges, soFar + comma + far, i + 1);
    }

    private Life plain() {
        return new Life(new Plain()).tell(rows);
    }

    /** Parts the calls into those that are refused or only ask, and those that do something. */
    private void sort(List<String> calls) {
        Life plain = plain();
        for (String call : calls) {
            int answer = plain.ask(call);
            boolean asks = call.matches("(at|time|way|of|misfit|span|quarrel|rank|resolved|best|heap|off|board|fault|count)\\(.*");
            boolean refused = answer <= -2 && answer >= -5;
            if (asks || refused) idle.add(new Due(call, answer));
            else done.add(call);
            if (!asks && !refused || plain.calls() >= 2 * BATCH) plain = plain();
        }
    }

    private void holdIdle() {
        for (int from = 0; from < idle.size(); from += BATCH) {
            Life program = Edges.life(rows);
            List<Due> batch = idle.subList(from, Math.min(from + BATCH, idle.size()));
            for (Due due : batch) Edges.due(due.call + " after " + rows, due.answer, program.ask(due.call));
            Edges.sameLook(rows, "one of " + batch, program);
        }
    }

    /** What was done shows the same in both; without the calls that are dear to Plain. */
    private void holdDone(String call) {
        Life plain = plain(), program = Edges.life(rows);
        List<String> asked = new ArrayList<>();
        Edges.due(call + " after " + rows, plain.ask(call), program.ask(call));
        for (int what = 0; what < 8; what++) asked.add("count(" + what + ")");
        for (int c = 0; c < plain.ask("count(0)"); c++) asked.addAll(List.of("at(" + c + ", 0)", "at(" + c + ", 1)"));
        for (int p = 0; p < plain.ask("count(4)"); p++) asked.addAll(List.of("of(" + p + ", 0)", "of(" + p + ", 2)", "of(" + p + ", 3)"));
        asked.addAll(List.of("misfit(0, 0)", "fault()", "ratio(17)", "slow(0, 2)", "slow(7, 2)", "clock(0, 0)", "run()"));
        for (String ask : asked) Edges.due(ask + " after " + call + " after " + rows, plain.ask(ask), program.ask(ask));
    }

    public static void main(String[] args) {
        int told = 0;
        for (String rows : STATES) {
            List<String> all = new ArrayList<>();
            for (Map.Entry<String, int[][]> entry : edges(Edges.life(rows)).entrySet()) calls(all, entry.getKey(), entry.getValue(), "", 0);
            GridTest grid = new GridTest(rows);
            grid.sort(all);
            grid.holdIdle();
            for (String call : grid.done) grid.holdDone(call);
            told += all.size();
        }
        Edges.end(told + " calls at the edges, ");
    }
}
