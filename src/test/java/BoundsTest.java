import java.io.IOException;
import java.nio.file.DirectoryStream;
import java.nio.file.Files;
import java.nio.file.Path;
import java.util.ArrayList;
import java.util.List;
import java.util.TreeSet;

/**
 * The boundaries that the document names, sentence by sentence: the tables of src/test/bounds. Each
 * quote of theirs must stand in the document, and no boundary of the document may be without one.
 */
public final class BoundsTest {
    public static void main(String[] args) throws IOException {
        Document document = new Document();
        TreeSet<String> headings = new TreeSet<>();
        for (BoundTable.Test test : allTests()) {
            Check.holds(test.where() + " quotes \"" + test.heading() + "\": " + test.quote(),
                    document.cover(test.heading(), test.quote()));
            headings.add(test.heading());
            new BoundRun(test);
        }
        for (String heading : document.headings()) {
            Check.holds("there is a test of " + heading, !heading.startsWith("Promise ") || headings.contains(heading));
        }
        for (String boundary : document.notCovered()) {
            Check.holds("there is a test of the boundary " + boundary, false);
        }
        for (String sentence : document.notTouched()) {
            Check.holds("there is a test of the sentence " + sentence, false);
        }
        Check.end();
    }

    private static List<BoundTable.Test> allTests() throws IOException {
        TreeSet<Path> files = new TreeSet<>();
        try (DirectoryStream<Path> all = Files.newDirectoryStream(Path.of("src/test/bounds"), "*.txt")) {
            all.forEach(files::add);
        }
        List<BoundTable.Test> tests = new ArrayList<>();
        for (Path file : files) {
            tests.addAll(BoundTable.read(file));
        }
        return tests;
    }
}
