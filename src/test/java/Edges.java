import java.lang.reflect.InvocationTargetException;
import java.lang.reflect.Method;
import java.util.ArrayList;
import java.util.Comparator;
import java.util.HashMap;
import java.util.List;
import java.util.Map;

/** What the tests of the edges share: states to begin from, what is due, and what a refused call must leave alone. */
final class Edges {
    /** A net of three by three with two blocks, three ears, two shakes, picks told anew, and a text that can be run. */
    static final String SOME = "ground(3, 3); split(0, 18); slow(1, 29); slow(6, 44); ratio(23); ear(0); ear(8); ear(2);"
        + "clock(1, -7); shake(4, 30); shake(6, 0); pick(0, 0, 0, 60, 90); pick(1, 0, 1, 100, 140); days(3);"
        + "pick(2, 1, 0, 40, 110); tell(0, 95, 110); days(2); tell(1, 90, 130)"
        + Life.written("slow 0 12;split 0 by 0 and 3;clock 1 9;move 1 5;fit 2");

    /** As much of everything as there may be: blocks, ears, shakes, picks, tellings, days, bytes. */
    static final String ALL = all();

    private static int wrong = 0;
    private static int tested = 0;
    private static final Map<String, List<Integer>> LOOKS = new HashMap<>();

    private Edges() { }

    private static String all() {
        StringBuilder rows = new StringBuilder("ground(4, 4)");
        for (int b = 1; b < 8; b++) rows.append("; split(0, ").append(3 << 2 * b).append("); slow(").append(b).append(", ").append(7 * b).append(")");
        for (int e = 0; e < 6; e++) rows.append("; ear(").append(3 * e).append("); clock(").append(e).append(", ").append(5 * e - 9).append(")");
        for (int s = 0; s < 5; s++) rows.append("; shake(").append(15 - 2 * s).append(", ").append(10 * s).append(")");
        for (int p = 0; p < 12; p++) {
            rows.append("; pick(").append(p % 6).append(", ").append(p % 5).append(", ").append(p % 3 / 2).append(", 40, ").append(300 + p).append(")");
        }
        for (int t = 0; t < 28; t++) {
            if (t % 3 == 0) rows.append("; days(50)");
            rows.append("; tell(").append(t % 12).append(", ").append(30 + t).append(", ").append(400 - t).append(")");
        }
        String text = "slow 1 8; fit 1; clock 5 99; move 4 15";
        return rows + Life.written(text + " ".repeat(160 - text.length()));
    }

    static void due(int want, int got) {
        due("", want, got);
    }

    static void due(String what, int want, int got) {
        tested++;
        if (want != got) {
            wrong++;
            System.out.println(where() + " " + what + ": answered " + got + ", due is " + want);
        }
    }

    private static String where() {
        return StackWalker.getInstance().walk(frames -> frames
            .filter(f -> !f.getClassName().equals("Edges") && !f.getClassName().equals("Life"))
            .findFirst().map(f -> f.getClassName() + "." + f.getMethodName() + " line " + f.getLineNumber()).orElse("?"));
    }

    /** A new object, told these rows. */
    static Life life(String rows) {
        return new Life().tell(rows);
    }

    /** After these rows the call is refused with this answer, and nothing that later calls show is changed by it. */
    static void refuse(String rows, String call, int want) {
        Life x = life(rows);
        due(call, want, x.ask(call));
        sameLook(rows, call, x);
    }

    /** After these rows the call only asks: whatever it answers, nothing that later calls show is changed by it. */
    static void onlyAsks(String rows, String call) {
        Life x = life(rows);
        x.ask(call);
        sameLook(rows, call, x);
    }

    /** What an object shows after these rows. */
    static List<Integer> lookAfter(String rows) {
        return LOOKS.computeIfAbsent(rows, r -> life(r).look());
    }

    static void sameLook(String rows, String what, Life x) {
        tested++;
        if (!lookAfter(rows).equals(x.look())) {
            wrong++;
            System.out.println(where() + " " + what + ": something is changed");
        }
    }

    /** Two runs of calls leave the same behind. */
    static void same(String rows, String others) {
        sameLook(rows, others, life(others));
    }

    static List<Method> sayings(Class<?> tests) {
        List<Method> methods = new ArrayList<>();
        for (Method m : tests.getDeclaredMethods()) if (m.isAnnotationPresent(Says.class)) methods.add(m);
        methods.sort(Comparator.comparing((Method m) -> m.getAnnotation(Says.class).promise()).thenComparing(Method::getName));
        return methods;
    }

    static void run(Class<?> tests) {
        List<Method> methods = sayings(tests);
        for (Method m : methods) {
            int before = tested;
            try {
                m.invoke(null);
            } catch (IllegalAccessException | InvocationTargetException e) {
                wrong++;
                System.out.println(m.getName() + ": " + (e.getCause() == null ? e : e.getCause()));
            }
            if (tested == before) {
                wrong++;
                System.out.println(m.getName() + " tests nothing");
            }
        }
        end(methods.size() + " tests, ");
    }

    static void end(String what) {
        System.out.println(what + tested + " answers, " + wrong + " wrong");
        if (wrong != 0) System.exit(1);
    }
}
