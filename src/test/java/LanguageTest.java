import java.io.IOException;
import java.nio.file.Files;
import java.nio.file.Path;
import java.util.List;
import java.util.regex.Matcher;
import java.util.regex.Pattern;

/** What a look at the text can tell of shared/LANGUAGE.md; run from the project's folder, as .ci/run does. */
public final class LanguageTest {
    private static final String[] NEVER = {"throw", "throws", "try", "catch", "finally", "synchronized", "assert", "protected",
        "Exception", "->", "::", "Exact", "System\\.(?!arraycopy)", "Math\\.random", "Thread", "hashCode", "toString", "@"};
    private static int wrong = 0;

    private static void fault(String what) {
        wrong++;
        System.out.println(what);
    }

    private static void imports(String code) {
        Matcher m = Pattern.compile("import ([\\w.*]+);").matcher(code);
        while (m.find()) {
            if (!List.of("java.util.Arrays", "java.util.ArrayList", "java.util.List").contains(m.group(1))) fault("import of " + m.group(1));
        }
    }

    private static void methods(String code) {
        Matcher m = Pattern.compile("(?m)^( {4}| {8})(?:[\\w\\[\\]]+ )*([\\w\\[\\]]+ )?(\\w+)\\(([^)]*)\\) \\{$").matcher(code);
        int found = 0;
        while (m.find()) {
            found++;
            int end = code.indexOf("\n" + m.group(1) + "}", m.end());
            long lines = code.substring(m.start(), end).lines().count() + 1;
            if (lines > 60) fault(m.group(3) + " has " + lines + " lines");
            if (m.group(4).split(",").length > 7) fault(m.group(3) + " has more than seven parameters");
        }
        if (found < 33) fault("only " + found + " methods were found to look at");
    }

    public static void main(String[] args) throws IOException {
        String text = Files.readString(Path.of("src/main/java/ShakePictures.java"));
        String code = text.replaceAll("(?s)/\\*.*?\\*/", "").replaceAll("//[^\n]*", "");
        for (String never : NEVER) {
            String word = never.matches("[a-zA-Z]+") && !never.equals("Exact") && !never.equals("Exception") ? "\\b" + never + "\\b" : never;
            if (Pattern.compile(word).matcher(code).find()) fault("the program has: " + never);
        }
        imports(code);
        methods(code);
        int classes = code.split("\\bclass ").length - 1;
        if (classes > 12) fault(classes + " classes");
        if (!text.chars().allMatch(c -> c < 128)) fault("a sign beyond 127");
        System.out.println(wrong == 0 ? "the text keeps to the language" : wrong + " faults of language");
        if (wrong != 0) System.exit(1);
    }
}
