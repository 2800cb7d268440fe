import java.lang.reflect.InvocationTargetException;
import java.lang.reflect.Method;
import java.util.ArrayList;
import java.util.HashMap;
import java.util.List;
import java.util.Map;
import java.util.regex.Matcher;
import java.util.regex.Pattern;

/**
 * One object and the calls told to it, written in rows such as "ground(2, 2)=4; ear(0)"; an answer behind = is due.
 * The object may be the program or Plain, the document without shortcuts.
 */
final class Life {
    static final int NONE = -1, UNKNOWN = -2, OUTSIDE = -3, NOT = -4, FULL = -5;
    private static final Pattern ROW = Pattern.compile("\\s*(\\w+)\\(([^)]*)\\)(?:=(-?\\w+))?\\s*");
    private static final Map<String, Method> METHODS = new HashMap<>();
    private static final Map<String, List<Row>> READ = new HashMap<>();

    record Row(String call, String name, Object[] args, Integer due) { }

    private final Object object;
    private int calls = 0;

    Life() {
        this(new ShakePictures());
    }

    Life(Object object) {
        this.object = object;
    }

    int calls() {
        return calls;
    }

    private static long number(String word) {
        return switch (word.trim()) {
            case "MIN" -> Integer.MIN_VALUE;
            case "MAX" -> Integer.MAX_VALUE;
            case "NONE" -> NONE;
            case "UNKNOWN" -> UNKNOWN;
            case "OUTSIDE" -> OUTSIDE;
            case "NOT" -> NOT;
            case "FULL" -> FULL;
            default -> Long.parseLong(word.trim());
        };
    }

    static List<Row> rows(String text) {
        return READ.computeIfAbsent(text, Life::read);
    }

    private static List<Row> read(String text) {
        List<Row> rows = new ArrayList<>();
        for (String part : text.split(";")) {
            if (part.isBlank()) continue;
            Matcher m = ROW.matcher(part);
            if (!m.matches()) throw new IllegalArgumentException("no row: " + part);
            String[] words = m.group(2).isBlank() ? new String[0] : m.group(2).split(",");
            Object[] args = new Object[words.length];
            boolean first = m.group(1).equals("write");
            for (int i = 0; i < words.length; i++) {
                long value = number(words[i]);
                if (first && i == 0) args[i] = value;
                else args[i] = Math.toIntExact(value);
            }
            Integer due = m.group(3) == null ? null : (Integer) (int) number(m.group(3));
            rows.add(new Row(m.group(1) + "(" + m.group(2) + ")", m.group(1), args, due));
        }
        return rows;
    }

    private Method method(String name, int parameters) {
        return METHODS.computeIfAbsent(object.getClass().getName() + "." + name + "/" + parameters, key -> {
            for (Method m : object.getClass().getDeclaredMethods()) {
                boolean taken = java.lang.reflect.Modifier.isPrivate(m.getModifiers());
                if (!taken && m.getName().equals(name) && m.getParameterCount() == parameters) return m;
            }
            throw new IllegalArgumentException("no such call: " + key);
        });
    }

    int call(Row row) {
        calls++;
        if (calls > 512) throw new IllegalStateException("an object is promised for 512 calls only");
        try {
            return (Integer) method(row.name, row.args.length).invoke(object, row.args);
        } catch (IllegalAccessException e) {
            throw new IllegalStateException(e);
        } catch (InvocationTargetException e) {
            throw new IllegalStateException(row.call + " has thrown " + e.getCause(), e.getCause());
        }
    }

    int ask(String row) {
        return call(rows(row).get(0));
    }

    Life tell(String text) {
        List<Row> rows = rows(text);
        for (int i = 0; i < rows.size(); i++) {
            int got = call(rows.get(i));
            if (rows.get(i).due != null) Edges.due(rows.get(i).call + ", row " + (i + 1), rows.get(i).due, got);
        }
        return this;
    }

    /** Up to eight bytes as write() takes them. */
    static long bytes(String text) {
        long bytes = 0;
        for (int i = 0; i < text.length(); i++) bytes |= (long) (text.charAt(i) & 255) << 8 * i;
        return bytes;
    }

    /** The rows that write a text. */
    static String written(String text) {
        StringBuilder rows = new StringBuilder();
        for (int i = 0; i < text.length(); i += 8) {
            String part = text.substring(i, Math.min(i + 8, text.length()));
            rows.append("; write(").append(bytes(part)).append(", ").append(part.length()).append(")");
        }
        return rows.toString();
    }

    Life say(String text) {
        return tell("erase()" + written(text));
    }

    /** All that calls show: first what asking tells, then what becomes of it when it is worked with. */
    List<Integer> look() {
        List<Integer> seen = new ArrayList<>();
        int cells = see(seen, "count(0)");
        for (int what = 1; what < 8; what++) see(seen, "count(" + what + ")");
        int ears = seen.get(2), shakes = seen.get(3), picks = seen.get(4), day = seen.get(6);
        for (int c = 0; c < cells; c++) {
            see(seen, "at(" + c + ", 0)");
            see(seen, "at(" + c + ", 1)");
            see(seen, "time(0, " + c + ", " + c % 2 + ")");
        }
        for (int i = 0; i < 7; i++) see(seen, "way(0, " + (cells - 1) + ", 0, " + i + ")");
        for (int p = 0; p < picks; p++) {
            for (int what = 0; what < 5; what++) see(seen, "of(" + p + ", " + what + ")");
        }
        for (int d : new int[] {0, day / 2, Math.max(0, day - 1), day}) {
            see(seen, "misfit(" + d + ", 0)");
            see(seen, "misfit(" + d + ", 1)");
        }
        for (int b = 0; b < 8; b++) {
            see(seen, "span(" + b + ", 0)");
            see(seen, "span(" + b + ", 1)");
            see(seen, "resolved(" + b + ")");
        }
        for (int s = 0; s < shakes; s++) see(seen, "heap(" + s + ", " + s % cells + ", 1)");
        for (int e = 0; e < ears; e++) see(seen, "off(" + e + ")");
        for (String row : new String[] {"quarrel()", "rank()", "best(0)", "best(1)", "board(9, 40, 3)", "fault()"}) see(seen, row);
        work(seen, cells, ears, shakes, picks);
        return seen;
    }

    private void work(List<Integer> seen, int cells, int ears, int shakes, int picks) {
        see(seen, "run()");
        for (int p = 0; p < picks; p++) see(seen, "of(" + p + ", 0)");
        for (int s = 0; s < shakes; s++) see(seen, "move(" + s + ")");
        for (int b = 0; b < 8; b++) see(seen, "slow(" + b + ", 13)");
        see(seen, "fit(1)");
        see(seen, "split(0, " + ((1 << cells) / 3) + ")");
        for (int c = 0; c < cells; c++) see(seen, "at(" + c + ", 0)");
        see(seen, "ratio(19)");
        see(seen, "ear(1)");
        see(seen, "shake(2, 3)");
        see(seen, "pick(" + ears + ", " + shakes + ", 0, 5, 6)");
        see(seen, "pick(0, 0, 1, 5, 6)");
        see(seen, "of(" + picks + ", 0)");
        see(seen, "tell(0, 1, 2)");
        see(seen, "days(1)");
        see(seen, "write(59, 1)");
        see(seen, "fault()");
    }

    private int see(List<Integer> seen, String row) {
        int answer = ask(row);
        seen.add(answer);
        return answer;
    }
}
