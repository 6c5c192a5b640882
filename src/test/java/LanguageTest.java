import java.io.IOException;
import java.nio.file.Files;
import java.nio.file.Path;
import java.util.List;
import java.util.Set;
import java.util.regex.Matcher;
import java.util.regex.Pattern;

/** Those rules of LANGUAGE.md that can be read off the source's text. Run from the project's folder. */
public final class LanguageTest {
    private static final Due T = new Due("LanguageTest");
    private static final Set<String> NOT_THERE = Set.of("throw", "throws", "try", "catch", "finally", "synchronized",
        "assert", "package", "protected", "volatile", "transient", "native", "strictfp", "Object", "Exception");
    private static final Set<String> LIBRARY = Set.of("Math.abs", "Math.max", "Math.min", "Long.bitCount",
        "System.arraycopy", "Arrays.fill");

    public static void main(String[] args) throws IOException {
        String whole = Files.readString(Path.of("src/main/java/DotThresholds.java"));
        String code = whole.replaceAll("(?s)/\\*.*?\\*/", " ").replaceAll("//[^\n]*", " ");
        words(code);
        library(code);
        T.due("lambdas and method references", count(code, "->|::"), 0);
        T.due("signs beyond 127", count(whole, "[^\\x00-\\x7f]"), 0);
        T.due("public classes", count(code, "public\\s+(final\\s+)?class"), 1);
        int inside = count(code, "\\bclass\\b") - 1;
        T.due("classes inside are private, static and final", count(code, "private static final class"), inside);
        T.due("at most twelve classes", inside + 1 <= 12 ? 1 : 0, 1);
        T.due("imports beside Arrays", count(code, "\\bimport\\b(?! java\\.util\\.Arrays;)"), 0);
        T.due("static state that is not final", count(code, "\\bstatic\\s+(?!final\\b)[\\w\\[\\]]+\\s+\\w+\\s*[;=]"), 0);
        lengthOfMethods(code);
        T.end();
    }

    private static int count(String code, String pattern) {
        Matcher m = Pattern.compile(pattern).matcher(code);
        int n = 0;
        while (m.find()) {
            n++;
        }
        return n;
    }

    private static void words(String code) {
        Matcher m = Pattern.compile("\\b[A-Za-z]+\\b").matcher(code);
        while (m.find()) {
            T.due("the word " + m.group(), NOT_THERE.contains(m.group()) ? 1 : 0, 0);
        }
    }

    private static void library(String code) {
        Matcher m = Pattern.compile("\\b(?!java\\.)[A-Z]\\w*\\.\\w+").matcher(code.replaceAll("import [^;]*;", " "));
        while (m.find()) {
            T.due("the library's " + m.group(), LIBRARY.contains(m.group()) ? 1 : 0, 1);
        }
    }

    /** A method begins at a line that ends with ") {" and no keyword ahead, and ends at a brace as far in. */
    private static void lengthOfMethods(String code) {
        List<String> lines = code.lines().toList();
        Pattern head = Pattern.compile("^( +)(?!.*\\b(if|for|while|switch|else|return)\\b).*\\) \\{$");
        for (int i = 0; i < lines.size(); i++) {
            Matcher m = head.matcher(lines.get(i));
            if (!m.matches()) {
                continue;
            }
            int end = i;
            while (end < lines.size() && !lines.get(end).equals(m.group(1) + "}")) {
                end++;
            }
            T.due(lines.get(i).trim() + " has sixty lines at most", end - i <= 60 ? 1 : 0, 1);
            T.due(lines.get(i).trim() + " has seven parameters at most", count(lines.get(i), ",") <= 6 ? 1 : 0, 1);
        }
    }
}
