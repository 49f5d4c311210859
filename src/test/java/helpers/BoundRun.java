import java.util.ArrayList;
import java.util.Arrays;
import java.util.List;
import java.util.Set;
import java.util.regex.Matcher;
import java.util.regex.Pattern;

/**
 * Plays the rows of one test on a new object:
 *
 *   camp(0, 0, 1)               a call
 *   camp(0, 0, 1) = 0           and its answer
 *   camp(0, 0, 1) = 2 .. 6      as many calls and their answers; # among the numbers is the answer
 *   week() = 0 x 9              nine times the same
 *   many(6) == 9                its answer, and nothing else is looked at
 *   camp(41, 0, 1) ! OUTSIDE    is refused so, and changes nothing
 *   camp(0 .. 40, 0, 1) ? OUTSIDE
 *                               takes the first and the last number; is refused so, and changes nothing,
 *                               with the numbers just beside these and with the least and greatest int
 *   write(3, 0, 5 6 7)          sheet 3 becomes a row of lane 0 of these cells; or of a text: "o1h5"
 *   text "o1h5-6@7-8" = 0       an order on day 0 by this text, which is written to sheet 3 as bytes
 */
final class BoundRun {
    private static final Pattern ROW = Pattern.compile("(\\w+)\\s*\\((.*)\\)(?:\\s*(==|[=!?])\\s*(.+))?");
    private static final Pattern TEXT_ROW = Pattern.compile("text \"([^\"]*)\"\\s*([=!])\\s*(.+)");
    private static final Pattern RANGE = Pattern.compile("(-?\\w+) \\.\\. (-?\\w+)");
    private static final Call FAULT = new Call("fault()");
    private static final int LAST_CALL = 512;

    private final String name;
    private final CampYears years = new CampYears();
    /** All calls so far but those that were refused: they alone make what the object is. */
    private final List<Call> history = new ArrayList<>();
    private int calls;
    /** What is seen of an object behind the history; kept, as many rows ask for the same. */
    private long[][] seen;

    /** Of each row with a range: the call, and which of its numbers that is. */
    private final Set<String> ranged;

    BoundRun(BoundTable.Test test, Set<String> ranged) {
        this.ranged = ranged;
        name = test.where() + " \"" + test.quote() + "\": ";
        for (String row : test.rows()) {
            play(row);
        }
        Check.holds(name + "has rows", !test.rows().isEmpty());
    }

    private void play(String row) {
        Matcher text = TEXT_ROW.matcher(row);
        if (text.matches()) {
            write(3, 0, codes(text.group(1)));
            String order = "order(0, 3, 0, 0, " + text.group(1).length() + ")";
            answer(order, text.group(2), text.group(3));
            return;
        }
        Matcher call = ROW.matcher(row);
        if (!call.matches()) {
            throw new IllegalStateException(name + "no row: " + row);
        }
        if (call.group(1).equals("write")) {
            String[] told = call.group(2).split("\\s*,\\s*", 3);
            write((int) Call.number(told[0]), (int) Call.number(told[1]), cells(told[2]));
            return;
        }
        answer(call.group(1) + "(" + call.group(2) + ")", call.group(3) == null ? "" : call.group(3), call.group(4));
    }

    private static int[] codes(String text) {
        return text.chars().toArray();
    }

    private static int[] cells(String told) {
        if (told.startsWith("\"")) {
            return codes(told.substring(1, told.length() - 1));
        }
        return Arrays.stream(told.trim().split("\\s+")).mapToInt(c -> (int) Call.number(c)).toArray();
    }

    private void write(int k, int lane, int[] row) {
        Check.due(name + "a sheet to write to", 1, take(new Call("sheet(" + k + ", " + lane + ", " + row.length + ")")));
        for (int i = 0; i < row.length; i++) {
            Check.due(name + "cell " + i, 1, take(new Call("put(" + k + ", " + i + ", " + row[i] + ")")));
        }
    }

    private void answer(String call, String how, String told) {
        switch (how) {
            case "": take(new Call(call)); break;
            case "==": justAnswers(new Call(call), told); break;
            case "=": dueAll(call, told); break;
            case "!": unchanged(new Call(call), told); break;
            default: bounded(call, told); break;
        }
    }

    private long take(Call call) {
        history.add(call);
        seen = null;
        return count(call);
    }

    private long count(Call call) {
        calls++;
        Check.holds(name + "no more calls than the document speaks of", calls <= LAST_CALL);
        return call.on(years);
    }

    private void dueAll(String call, String told) {
        Matcher range = RANGE.matcher(told);
        if (range.matches()) {
            for (long n = Call.number(range.group(1)); n <= Call.number(range.group(2)); n++) {
                due(call.replace("#", "" + n), "" + n);
            }
            return;
        }
        String[] times = told.split(" x ");
        for (int n = times.length == 1 ? 1 : Integer.parseInt(times[1]); n > 0; n--) {
            due(call, times[0]);
        }
    }

    private void due(String text, String told) {
        Call call = new Call(text);
        if (call.isQuestion()) {
            unchanged(call, told);
        } else {
            history.add(call);
            seen = null;
            answers(call, told);
        }
    }

    private void justAnswers(Call call, String told) {
        Check.due(name + call.text, call.answer(told), count(call));
    }

    private void answers(Call call, String told) {
        justAnswers(call, told);
        if (call.namesFaults()) {
            Check.due(name + "fault() behind " + call.text, call.faultBy(told), count(FAULT));
        }
    }

    /** The call answers so, and changes nothing but what fault() tells, if it names FAULTS. */
    private void unchanged(Call call, String told) {
        long before = count(FAULT);
        answers(call, told);
        if (!call.namesFaults()) {
            Check.due(name + "fault() stays behind " + call.text, before, count(FAULT));
        }
        if (seen == null) {
            seen = new long[Probe.parts()][];
            for (int part = 0; part < seen.length; part++) {
                seen[part] = Probe.look(part, replay());
            }
        }
        Check.holds(name + "a history short enough to look behind it",
                history.size() + 1 + Probe.MOST_CALLS <= LAST_CALL);
        for (int part = 0; part < seen.length; part++) {
            CampYears other = replay();
            call.on(other);
            Check.holds(name + call.text + " changes nothing (part " + part + " of what is seen)",
                    Arrays.equals(seen[part], Probe.look(part, other)));
        }
    }

    private CampYears replay() {
        CampYears other = new CampYears();
        for (Call call : history) {
            call.on(other);
        }
        return other;
    }

    private void bounded(String text, String told) {
        Matcher range = RANGE.matcher(text);
        if (!range.find()) {
            throw new IllegalStateException(name + "no range: " + text);
        }
        String ahead = text.substring(0, range.start());
        ranged.add(ahead.substring(0, ahead.indexOf('(')) + " " + ahead.chars().filter(c -> c == ',').count());
        int least = (int) Call.number(range.group(1));
        int most = (int) Call.number(range.group(2));
        for (int n : new int[] {least, most}) {
            Call call = new Call(range.replaceFirst("" + n));
            Check.holds(name + call.text + " is taken", call.wasTaken(call.on(replay())));
        }
        for (int n : new int[] {least - 1, most + 1, Integer.MIN_VALUE, Integer.MAX_VALUE}) {
            unchanged(new Call(range.replaceFirst("" + n)), told);
        }
    }
}
