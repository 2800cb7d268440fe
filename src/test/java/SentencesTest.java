import java.io.IOException;
import java.lang.reflect.Method;
import java.nio.file.Files;
import java.nio.file.Path;
import java.util.ArrayList;
import java.util.List;
import java.util.regex.Matcher;
import java.util.regex.Pattern;

/**
 * Holds the tests of the edges against the document: what they quote stands there, and no word of a promise or of the
 * terms is left that none of them quotes. Run from the project's folder, as .ci/run does.
 */
public final class SentencesTest {
    private static final Path DOCUMENT = Path.of("../shared/DOC.md");
    private static final Class<?>[] TESTS = {GroundEdgesTest.class, PicksEdgesTest.class, FittingEdgesTest.class, RunsEdgesTest.class, RefusalsTest.class};
    private static int wrong = 0;

    /** One part of the document, without its heading and the signatures of calls. */
    private static final class Part {
        final String name;
        final String text;
        final boolean[] quoted;

        Part(String name, String text) {
            this.name = name;
            this.text = text.replaceAll("`[^`]*`:", " ").replaceAll("```\\w*", " ").replaceAll("Ahead of the calls .*", " ")
                .replaceAll("={8} \\d", " ").replaceAll("\\s+", " ");
            this.quoted = new boolean[this.text.length()];
        }

        boolean quote(String words) {
            int found = 0;
            for (int at = text.indexOf(words); at >= 0; at = text.indexOf(words, at + 1)) {
                for (int i = at; i < at + words.length(); i++) quoted[i] = true;
                found++;
            }
            return found > 0;
        }

        void tellUnquoted() {
            Matcher word = Pattern.compile("[\\w-]+").matcher(text);
            StringBuilder left = new StringBuilder();
            while (word.find()) if (!quoted[word.start()]) left.append(' ').append(word.group());
            if (left.length() > 0) fault("no test of the edges quotes, of " + name + ":" + left);
        }
    }

    private static void fault(String what) {
        wrong++;
        System.out.println(what);
    }

    /** The terms first, then the promises by number. */
    private static List<Part> parts(String document) {
        List<Part> parts = new ArrayList<>();
        Matcher terms = Pattern.compile("(?s)\n## Terms\n(.*?)\n## ").matcher(document);
        if (terms.find()) parts.add(new Part("the terms", terms.group(1)));
        for (int n = 1; n <= 33; n++) {
            Matcher promise = Pattern.compile("(?s)\n## Promise " + n + ":[^\n]*\n(.*?)\n## ").matcher(document);
            if (promise.find()) parts.add(new Part("promise " + n, promise.group(1)));
        }
        if (parts.size() != 34) fault("the document has other parts than terms and 33 promises");
        return parts;
    }

    public static void main(String[] args) throws IOException {
        if (!Files.exists(DOCUMENT)) {
            System.out.println("no document here to hold the tests against");
            return;
        }
        List<Part> parts = parts(Files.readString(DOCUMENT));
        int quotes = 0;
        for (Class<?> tests : TESTS) {
            for (Method m : Edges.sayings(tests)) {
                Says says = m.getAnnotation(Says.class);
                for (String words : says.value()) {
                    quotes++;
                    boolean inPromise = parts.get(says.promise()).quote(words);
                    boolean inTerms = parts.get(0).quote(words);
                    if (!inPromise && !inTerms) fault(m.getName() + " quotes what is not there: " + words);
                }
            }
        }
        for (Part part : parts) part.tellUnquoted();
        System.out.println(quotes + " quotes, " + wrong + " faults");
        if (wrong != 0) System.exit(1);
    }
}
