import java.io.IOException;
import java.lang.reflect.Method;
import java.lang.reflect.Modifier;
import java.nio.file.DirectoryStream;
import java.nio.file.Files;
import java.nio.file.Path;
import java.util.ArrayList;
import java.util.List;
import java.util.Set;
import java.util.TreeSet;

/**
 * The boundaries that the document names, sentence by sentence: the tables of src/test/bounds. Each
 * quote of theirs must stand in the document, and no boundary of the document may be without one.
 */
public final class BoundsTest {
    /** Numbers of calls of which not all that are in range are taken alike, so that rows tell each. */
    private static final Set<String> BY_SINGLE_ROWS = Set.of("order 2", "order 3", "order 4", "row 0", "row 2",
            "row 3", "row 4", "gain 1", "gain 2", "gain 3", "sheet 2", "put 2", "cell 2");

    public static void main(String[] args) throws IOException {
        Document document = new Document();
        Set<String> headings = new TreeSet<>();
        Set<String> ranged = new TreeSet<>();
        for (BoundTable.Test test : allTests()) {
            Check.holds(test.where() + " quotes \"" + test.heading() + "\": " + test.quote(),
                    document.cover(test.heading(), test.quote()));
            headings.add(test.heading());
            new BoundRun(test, ranged);
        }
        for (String heading : document.headings()) {
            Check.holds("there is a test of " + heading, !heading.startsWith("Promise ") || headings.contains(heading));
        }
        for (String boundary : document.notCovered()) {
            Check.holds("there is a test of the boundary " + boundary, false);
        }
        for (String sentence : document.notTouched()) {
            Check.holds("there is a test of the sentence " + sentence, false);
        }
        rangesOfAllNumbers(ranged);
        Check.end();
    }

    private static void rangesOfAllNumbers(Set<String> ranged) {
        for (Method m : CampYears.class.getDeclaredMethods()) {
            for (int k = 0; Modifier.isPublic(m.getModifiers()) && k < m.getParameterCount(); k++) {
                boolean isNumber = m.getParameterTypes()[k] == int.class;
                String which = m.getName() + " " + k;
                Check.holds("there is a range of number " + which,
                        !isNumber || ranged.contains(which) || BY_SINGLE_ROWS.contains(which));
            }
        }
    }

    private static List<BoundTable.Test> allTests() throws IOException {
        TreeSet<Path> files = new TreeSet<>();
        try (DirectoryStream<Path> all = Files.newDirectoryStream(Path.of("src/test/bounds"), "*.txt")) {
            all.forEach(files::add);
        }
        List<BoundTable.Test> tests = new ArrayList<>();
        for (Path file : files) {
            tests.addAll(BoundTable.read(file));
        }
        return tests;
    }
}
