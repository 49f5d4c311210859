import java.io.IOException;
import java.nio.file.Files;
import java.nio.file.Path;
import java.util.ArrayList;
import java.util.LinkedHashMap;
import java.util.List;
import java.util.Map;
import java.util.regex.Matcher;
import java.util.regex.Pattern;

/** ../shared/DOC.md by its headings, and which of its words the quotes of tests have covered. */
final class Document {
    /** What names a boundary: ranges, limits, first values, and the names of refusals and faults. */
    private static final Pattern BOUNDARY = Pattern.compile("\\d+ ever|\\d+ \\.\\. \\d+|at first|\\d at most"
            + "|goes round|wraps|\\b(?:UNKNOWN|OUTSIDE|STATE|FULL|NONE|LOST|NULL|CAST|INDEX|SIZE|FAULTS?)\\b");

    private final Map<String, String> parts = new LinkedHashMap<>();
    private final Map<String, boolean[]> covered = new LinkedHashMap<>();

    Document() throws IOException {
        String heading = "";
        StringBuilder text = new StringBuilder();
        for (String line : Files.readAllLines(Path.of("../shared/DOC.md"))) {
            if (line.startsWith("## ")) {
                keep(heading, text);
                heading = line.substring(3);
                text.setLength(0);
            } else if (!line.startsWith("```") && !line.startsWith("Ahead of the calls")) {
                text.append(line).append(' ');
            }
        }
        keep(heading, text);
    }

    private void keep(String heading, StringBuilder text) {
        String words = plain(text.toString());
        parts.put(heading, words);
        covered.put(heading, new boolean[words.length()]);
    }

    private static String plain(String text) {
        return text.replace("`", "").replaceAll("\\s+", " ").trim();
    }

    /** Marks the words of a quote as tested; false, if they don't stand below that heading. */
    boolean cover(String heading, String quote) {
        String words = plain(quote);
        int at = parts.getOrDefault(heading, "").indexOf(words);
        for (int k = 0; at >= 0 && k < words.length(); k++) {
            covered.get(heading)[at + k] = true;
        }
        return at >= 0;
    }

    /** What names a boundary in the terms and promises and stands in no quote, or in one but in part. */
    List<String> notCovered() {
        List<String> missing = new ArrayList<>();
        for (String heading : parts.keySet()) {
            if (heading.equals("Terms") || heading.startsWith("Promise ")) {
                Matcher m = BOUNDARY.matcher(parts.get(heading));
                while (m.find()) {
                    if (!isCovered(heading, m.start(), m.end())) {
                        missing.add(heading + ": .. " + around(parts.get(heading), m.start(), m.end()) + " ..");
                    }
                }
            }
        }
        return missing;
    }

    /** Sentences of the terms and promises of which no quote has a word. */
    List<String> notTouched() {
        List<String> missing = new ArrayList<>();
        Pattern sentence = Pattern.compile(".*?[^.\\s][.;](?=\\s|$)|.+$");
        for (String heading : parts.keySet()) {
            if (heading.equals("Terms") || heading.startsWith("Promise ")) {
                Matcher m = sentence.matcher(parts.get(heading));
                while (m.find()) {
                    if (!isTouched(heading, m.start(), m.end())) {
                        missing.add(heading + ": " + m.group().trim());
                    }
                }
            }
        }
        return missing;
    }

    private boolean isCovered(String heading, int from, int to) {
        for (int k = from; k < to; k++) {
            if (!covered.get(heading)[k]) {
                return false;
            }
        }
        return true;
    }

    private boolean isTouched(String heading, int from, int to) {
        for (int k = from; k < to; k++) {
            if (covered.get(heading)[k]) {
                return true;
            }
        }
        return false;
    }

    private static String around(String text, int from, int to) {
        return text.substring(Math.max(0, from - 30), Math.min(text.length(), to + 30));
    }

    List<String> headings() {
        return new ArrayList<>(parts.keySet());
    }
}
