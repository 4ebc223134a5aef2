import java.io.IOException;
import java.nio.file.Files;
import java.nio.file.Path;
import java.util.List;
import java.util.regex.Matcher;
import java.util.regex.Pattern;

/** What of the rules of the language can be seen in the source; run from the project's root. */
public final class RulesTest {
    private static final String SOURCE = "src/main/java/FourPoses.java";
    private static final String[] BANNED = {
        "\\bthrows?\\b", "\\btry\\b", "\\bcatch\\b", "\\bfinally\\b", "\\bsynchronized\\b", "\\bassert\\b",
        "->", "::", "\\bequals\\(", "\\bhashCode\\b", "\\btoString\\b", "\\bSystem\\.(?!arraycopy)",
        "\\bThread\\b", "\\bRandom\\b", "Exact\\(", "while \\(true\\)", "for \\(;;\\)", "^import (?!java\\.util\\.Arrays;)",
        "^package", "\\bprotected\\b", "\\bdefault ->", "\" \\+ ", " \\+ \""
    };
    private static final Pattern METHOD =
        Pattern.compile("^( {4}| {8})(private |public )?(static )?[A-Za-z\\[\\]]+ ?[A-Za-z]*\\(([^)]*)\\) \\{$");

    public static void main(String[] args) throws IOException {
        List<String> lines = Files.readAllLines(Path.of(SOURCE));
        int classes = 0;
        for (int i = 0; i < lines.size(); i++) {
            String code = lines.get(i).replaceAll("//.*", "").replaceAll("^\\s*(/\\*\\*|\\*).*", "");
            for (String banned : BANNED) {
                Check.due("line " + (i + 1) + " with " + banned, Pattern.compile(banned).matcher(code).find(), false);
            }
            for (char c : lines.get(i).toCharArray()) {
                Check.due("line " + (i + 1) + " of plain signs", c >= 32 && c < 127, true);
            }
            if (code.matches(".*\\bclass [A-Z].*")) {
                classes++;
                Check.due("line " + (i + 1) + " a static class", code.matches("public final class FourPoses \\{| {4}private static final class [A-Z][a-z]+ \\{"), true);
            }
            Matcher method = METHOD.matcher(code);
            if (method.find()) {
                method(lines, i, method);
            }
            // Whatever stands in the outer class itself is public, or private.
            if (code.matches(" {4}[A-Za-z].*")) {
                Check.due("line " + (i + 1) + " public or private", code.matches(" {4}(public|private) .*"), true);
            }
            if (code.matches(".*\\bstatic\\b.*[=;].*") && !code.contains("(")) {
                Check.due("line " + (i + 1) + " final", code.contains("final"), true);
            }
        }
        Check.due("at most twelve classes", classes <= 12, true);
        Check.end();
    }

    private static void method(List<String> lines, int from, Matcher method) {
        int to = from;
        while (to < lines.size() && !lines.get(to).equals(method.group(1) + "}")) {
            to++;
        }
        Check.due("line " + (from + 1) + " at most sixty lines", to - from <= 60, true);
        String told = method.group(4);
        int parameters = told.isEmpty() ? 0 : told.split(",").length;
        Check.due("line " + (from + 1) + " at most seven parameters", parameters <= 7, true);
    }
}
