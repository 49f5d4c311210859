import java.io.IOException;
import java.lang.reflect.Method;
import java.lang.reflect.Modifier;
import java.nio.file.Files;
import java.nio.file.Path;
import java.util.List;
import java.util.regex.Matcher;
import java.util.regex.Pattern;

/** README.md's examples answer as it says, and it names every call. Runs in the project's folder. */
public final class ReadmeTest {
    private static final Pattern CALL = Pattern.compile("years\\.(\\w+\\(.*\\));\\s+// (-?\\d+|[A-Z]+):.*");
    private static final Pattern WRITE = Pattern.compile("write\\(years, (\\d), \"(.*)\"\\);");

    public static void main(String[] args) throws IOException {
        List<String> page = Files.readAllLines(Path.of("README.md"));
        CampYears years = new CampYears();
        int answers = 0;
        for (String line : page) {
            Matcher write = WRITE.matcher(line);
            Matcher call = CALL.matcher(line);
            if (write.matches()) {
                Scenes.write(years, Integer.parseInt(write.group(1)), 0, write.group(2).chars().toArray());
            } else if (call.matches()) {
                Call told = new Call(call.group(1));
                Check.due(line, told.answer(call.group(2)), told.on(years));
                answers++;
            } else {
                Check.holds("tells an answer: " + line, !line.startsWith("years."));
            }
        }
        Check.holds("there are examples", answers > 20);
        namesEveryCall(String.join("\n", page));
        Check.end();
    }

    private static void namesEveryCall(String page) {
        for (Method m : CampYears.class.getDeclaredMethods()) {
            if (Modifier.isPublic(m.getModifiers())) {
                Check.holds("README.md names " + m.getName(), page.contains("`" + m.getName() + "`"));
            }
        }
    }
}
