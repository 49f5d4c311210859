import java.nio.file.Files;
import java.nio.file.Path;
import java.util.regex.Matcher;
import java.util.regex.Pattern;

/** What LANGUAGE.md rules out and a look at the source can find. Runs in the project's folder. */
public final class RulesTest {
    private static final String[] NEVER = {
        "\\bthrow\\b", "\\bthrows\\b", "\\btry\\b", "\\bcatch\\b", "\\bfinally\\b", "\\bsynchronized\\b",
        "\\bassert\\b", "->", "::", "\\bprotected\\b", "\\bpackage\\b", "\\bvolatile\\b", "\\btransient\\b",
        "\\bThread\\b", "\\bSystem\\.(?!arraycopy)", "\\bObject\\b", "\\bException\\b", "Exact\\b",
        "\\bRandom\\b", "\\brandom\\b", "\\bhashCode\\b", "\\btoString\\b", "\\bfloat\\b", "\\bdouble\\b",
        "\\bstatic\\s*\\{", "while \\(true\\)", "for \\(;;\\)", "\"", "[^\\x00-\\x7f]"};
    private static final String[] LIBRARY = {
        "Math.abs", "Math.max", "Math.min", "Math.floorMod", "Integer.bitCount", "Integer.MIN_VALUE",
        "Long.MIN_VALUE", "Arrays.fill"};

    public static void main(String[] args) throws Exception {
        String source = Files.readString(Path.of("src/main/java/CampYears.java"));
        String code = source.replaceAll("(?s)/\\*.*?\\*/", "").replaceAll("//[^\n]*", "");
        for (String never : NEVER) {
            Check.holds("no " + never, !Pattern.compile(never).matcher(code).find());
        }
        imports(code);
        library(code);
        methods(code);
        Check.end();
    }

    private static void imports(String code) {
        Matcher m = Pattern.compile("import ([^;]*);").matcher(code);
        while (m.find()) {
            Check.holds("import of " + m.group(1), m.group(1).equals("java.util.Arrays"));
        }
    }

    private static void library(String code) {
        Matcher m = Pattern.compile("\\b(?:Math|Integer|Long|Arrays|System|String|List)\\.\\w+").matcher(code);
        while (m.find()) {
            Check.holds("the library has " + m.group(), java.util.List.of(LIBRARY).contains(m.group()));
        }
    }

    /** A method's head is a line that ends in "{" and has a "(" behind a name behind a type. */
    private static void methods(String code) {
        Pattern head = Pattern.compile("^( +)(?:(?:public|private|static|final) )*[\\w\\[\\]]+ \\w+\\(([^)]*)\\) \\{$");
        String[] lines = code.split("\n");
        for (int at = 0; at < lines.length; at++) {
            Matcher m = head.matcher(lines[at]);
            if (!m.find() || lines[at].contains(" new ")) {
                continue;
            }
            int end = at;
            while (!lines[end].equals(m.group(1) + "}")) {
                end++;
            }
            Check.holds("short enough: " + lines[at], end - at <= 60);
            Check.holds("seven parameters at most: " + lines[at], m.group(2).split(",").length <= 7);
        }
    }
}
