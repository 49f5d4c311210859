import java.io.IOException;
import java.nio.file.Files;
import java.nio.file.Path;
import java.util.ArrayList;
import java.util.List;

/** The tests of a file of src/test/bounds: each a quote of the document with rows of calls. */
final class BoundTable {
    /** A heading of the document, a quote that stands below it, and the rows that hold the class to it. */
    record Test(String where, String heading, String quote, List<String> rows) {
    }

    private BoundTable() {
    }

    static List<Test> read(Path file) throws IOException {
        List<Test> tests = new ArrayList<>();
        String heading = "";
        int number = 0;
        for (String line : Files.readAllLines(file)) {
            number++;
            String row = line.replaceFirst("(^|\\s)--(\\s.*)?$", "").trim();
            if (row.startsWith("# ")) {
                heading = row.substring(2);
            } else if (row.startsWith("> ")) {
                tests.add(new Test(file.getFileName() + ":" + number, heading, row.substring(2), new ArrayList<>()));
            } else if (!row.isEmpty()) {
                tests.get(tests.size() - 1).rows().add(row);
            }
        }
        return tests;
    }
}
