import java.io.IOException;
import java.nio.file.Files;
import java.nio.file.Path;
import java.util.regex.Matcher;
import java.util.regex.Pattern;

/** What of ../shared/LANGUAGE.md can be seen in the source without understanding it. */
final class LanguageTest {
    private static final String[] FORBIDDEN = {
        "\\bpackage\\b", "\\bimport\\b", "->", "::", "\\btry\\b", "\\bcatch\\b", "\\bfinally\\b", "\\bsynchronized\\b", "\\bassert\\b",
        "\\bExact\\b", "\\w+Exact\\b", "\\bSystem\\.(?!arraycopy)", "\\bThread\\b", "\\bRandom\\b", "\\bObject\\b", "\\bhashCode\\b",
        "\\bequals\\b", "\\btoString\\b", "\\bvolatile\\b", "\\bnative\\b", "\\bprotected\\b", "\\bextends\\b", "@"};
    private static final int LONGEST_METHOD = 60;
    private static final int MOST_PARAMETERS = 7;

    private LanguageTest() {
    }

    public static void main(String[] args) throws IOException {
        String source = Files.readString(Path.of(args.length > 0 ? args[0] : "src/main/java/RateWires.java"));
        for (int i = 0; i < source.length(); i++) {
            char c = source.charAt(i);
            Checks.isTrue("sign " + (int) c, c == '\n' || c >= ' ' && c < 127);
        }
        String code = source.replaceAll("(?s)/\\*.*?\\*/", "").replaceAll("//[^\n]*", "").replaceAll("\"[^\"\n]*\"", "\"\"");
        for (String f : FORBIDDEN) {
            Matcher m = Pattern.compile(f).matcher(code);
            Checks.isTrue("no " + f, !m.find());
        }
        thrown(code);
        staticFields(code);
        methods(source);
        Checks.end("LanguageTest");
    }

    private static void thrown(String code) {
        Matcher m = Pattern.compile("\\bthrow\\b([^;]*);").matcher(code);
        while (m.find()) {
            Checks.isTrue("thrown:" + m.group(1), m.group(1).matches(" new (IllegalState|IllegalArgument|IndexOutOfBounds)Exception\\(\"\"\\)"));
        }
    }

    private static void staticFields(String code) {
        Matcher m = Pattern.compile("\\bstatic\\b[^;{(]*;|\\bstatic\\b[^;{(]*=").matcher(code);
        while (m.find()) {
            Checks.isTrue("static and final: " + m.group(), m.group().contains("static final "));
        }
        Checks.isTrue("no static initialiser", !Pattern.compile("\\bstatic\\s*\\{").matcher(code).find());
    }

    /** A method begins with a line that ends in a round bracket and a curly one, and ends at a curly one as far to the right. */
    private static void methods(String source) {
        String[] lines = source.split("\n");
        Pattern head = Pattern.compile("^( {4}| {8})(?! )(?!.*\\b(class|if|for|while|switch|enum)\\b).*\\(([^)]*)\\)[^;]*\\{$");
        int found = 0;
        for (int i = 0; i < lines.length; i++) {
            Matcher m = head.matcher(lines[i]);
            if (m.matches()) {
                found++;
                int end = i + 1;
                while (!lines[end].equals(m.group(1) + "}")) {
                    end++;
                }
                Checks.isTrue("short: " + lines[i], end - i + 1 <= LONGEST_METHOD);
                Checks.isTrue("few parameters: " + lines[i], m.group(3).split(",").length <= MOST_PARAMETERS);
            }
        }
        Checks.isTrue("methods are found", found > 60);
    }
}
