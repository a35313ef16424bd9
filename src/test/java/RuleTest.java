import java.io.IOException;
import java.nio.file.Files;
import java.nio.file.Path;
import java.util.List;
import java.util.Set;
import java.util.regex.Matcher;
import java.util.regex.Pattern;
import java.util.stream.Stream;

/** The rules of LANGUAGE.md that the text of the program shows; those of the compiled class are in FaceTest. */
public final class RuleTest {
    private static final Path SOURCES = Path.of("src/main/java");
    private static final int MOST_LINES = 60;
    private static final Set<String> LIBRARY = Set.of("Math.max", "Math.min", "Arrays.fill", "System.arraycopy");
    private static final String[] LEFT_OUT = {"->", "::", "\\btry\\b", "\\bcatch\\b", "\\bfinally\\b", "\\bthrow\\b", "\\bthrows\\b",
        "\\bsynchronized\\b", "\\bvolatile\\b", "\\bassert\\b", "\\bnative\\b", "\\bpackage\\b", "\\bstatic\\s*\\{", "@\\w+"};
    private static final Verdict VERDICT = new Verdict();

    public static void main(String[] args) throws IOException {
        try (Stream<Path> files = Files.walk(SOURCES)) {
            List<Path> found = files.filter(Files::isRegularFile).toList();
            VERDICT.due("the program", found.toString(), "[" + SOURCES.resolve("EditionGrid.java") + "]");
        }
        String source = Files.readString(SOURCES.resolve("EditionGrid.java"));
        String code = withoutTexts(source);
        leavesOut(code);
        usesTheLibraryThatIsListed(code);
        hasShortMethods(code);
        makesNothingInCalls(code);
        VERDICT.end();
    }

    /** Comments and the characters in quotes are no code. */
    private static String withoutTexts(String source) {
        return source.replaceAll("(?s)/\\*.*?\\*/", "").replaceAll("//.*", "").replaceAll("'(\\\\.|[^'\\\\])'", "' '");
    }

    /** Rules 2, 3, 5 and 6; there is no text in quotes, so none is joined by +. */
    private static void leavesOut(String code) {
        for (String word : LEFT_OUT) {
            VERDICT.due(word + " is left out", Pattern.compile(word).matcher(code).find() ? 1 : 0, 0);
        }
        VERDICT.due("quotes", code.indexOf('"'), -1);
    }

    /** Rules 4 and 13. */
    private static void usesTheLibraryThatIsListed(String code) {
        Matcher imports = Pattern.compile("(?m)^import (.*);$").matcher(code);
        while (imports.find()) {
            VERDICT.due("an import", imports.group(1), "java.util.Arrays");
        }
        Matcher uses = Pattern.compile("(?<![\\w.])(Math|Arrays|System|Integer|Long|Character|String|Thread)\\.\\w+").matcher(code);
        while (uses.find()) {
            VERDICT.due("use of " + uses.group(), LIBRARY.contains(uses.group()) ? 1 : 0, 1);
        }
    }

    /** Rule 11. */
    private static void hasShortMethods(String code) {
        String[] lines = code.split("\n");
        int methods = 0;
        for (int i = 0; i < lines.length; i++) {
            Matcher head = Pattern.compile("^( {4}| {8})(?! )[\\w\\[\\] ]+\\([^)]*\\) \\{$").matcher(lines[i]);
            if (head.matches() && !lines[i].strip().matches("(if|for|while|switch)\\b.*")) {
                int end = i;
                while (!lines[end].equals(head.group(1) + "}")) {
                    end++;
                }
                VERDICT.due(lines[i].strip() + " has at most " + MOST_LINES + " lines", end - i < MOST_LINES ? 1 : 0, 1);
                methods++;
            }
        }
        VERDICT.due("methods were looked at", methods > 14 ? 1 : 0, 1);
    }

    /** The room of a run: objects are made for fields and in constructors alone. */
    private static void makesNothingInCalls(String code) {
        for (String line : code.split("\n")) {
            boolean isField = line.strip().startsWith("private final ");
            boolean isInConstructor = line.strip().matches("(breaker|planner|painter|sheets|stories\\[i\\]) = new .*");
            VERDICT.due("made in " + line.strip(), line.contains("new ") && !isField && !isInConstructor ? 1 : 0, 0);
        }
    }
}
