import java.lang.reflect.Method;
import java.util.Map;
import java.util.Set;

/** A call of CampYears that is told as text, such as "camp(0, 40, 1)", and can be made on many objects. */
final class Call {
    private static final Map<String, Long> NAMED = Map.ofEntries(
            Map.entry("UNKNOWN", -1L), Map.entry("OUTSIDE", -2L), Map.entry("STATE", -3L),
            Map.entry("FULL", -4L), Map.entry("NONE", -9L), Map.entry("NULL", -11L),
            Map.entry("CAST", -12L), Map.entry("INDEX", -13L), Map.entry("SIZE", -14L),
            Map.entry("LOST", Long.MIN_VALUE), Map.entry("MAX", (long) Integer.MAX_VALUE),
            Map.entry("MIN", (long) Integer.MIN_VALUE));
    private static final Set<String> NAME_FAULTS = Set.of("order", "row", "gain", "sheet", "put", "cell", "as");
    private static final Set<String> QUESTIONS = Set.of("day", "beds", "over", "ofOrder", "word", "why",
            "quarrel", "pay", "ofWork", "told", "grew", "live", "forest", "lost", "call", "move", "gain",
            "spot", "cell", "as", "trace", "fault", "many");

    final String text;
    private final Method method;
    private final Object[] numbers;

    Call(String text) {
        this.text = text;
        int open = text.indexOf('(');
        method = named(text.substring(0, open));
        String inside = text.substring(open + 1, text.lastIndexOf(')')).trim();
        String[] told = inside.isEmpty() ? new String[0] : inside.split("\\s*,\\s*");
        if (told.length != method.getParameterCount()) {
            throw new IllegalStateException("other numbers than the document's: " + text);
        }
        numbers = new Object[told.length];
        for (int k = 0; k < told.length; k++) {
            numbers[k] = method.getParameterTypes()[k] == boolean.class
                    ? (Object) Boolean.valueOf(told[k]) : (Object) (int) number(told[k]);
        }
    }

    private static Method named(String name) {
        for (Method m : CampYears.class.getMethods()) {
            if (m.getName().equals(name) && m.getDeclaringClass() == CampYears.class) {
                return m;
            }
        }
        throw new IllegalStateException("no such call: " + name);
    }

    static long number(String told) {
        Long named = NAMED.get(told);
        return named != null ? named : Long.parseLong(told);
    }

    /** What an answer's text stands for: LOST for refusals and faults, where a long is answered. */
    long answer(String told) {
        boolean refusal = NAMED.containsKey(told) && !told.equals("NONE");
        return refusal && method.getReturnType() == long.class ? CampYears.LOST : number(told);
    }

    /** Whether the answer tells that all numbers of the call were taken. */
    boolean wasTaken(long answer) {
        return method.getReturnType() == long.class
                ? answer != CampYears.LOST : answer >= 0 || answer == CampYears.NONE;
    }

    boolean namesFaults() {
        return NAME_FAULTS.contains(method.getName());
    }

    /** What fault() must tell behind a call that names FAULTS, if this was its answer. */
    long faultBy(String told) {
        switch (told) {
            case "NULL": return 1;
            case "CAST": return 2;
            case "INDEX": return 3;
            case "SIZE": return 4;
            default: return 0;
        }
    }

    boolean isQuestion() {
        return QUESTIONS.contains(method.getName());
    }

    long on(CampYears years) {
        try {
            return ((Number) method.invoke(years, numbers)).longValue();
        } catch (ReflectiveOperationException e) {
            throw new IllegalStateException(text + " threw", e);
        }
    }
}
