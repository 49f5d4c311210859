import java.util.Arrays;
import java.util.List;

/** The probe that BoundsTest looks with would see each change that a call can make. */
public final class ProbeTest {
    private static final List<String> SCENE = List.of("camp(0, 0, 1)", "camp(9, 9, 2)", "man()", "man()",
            "post(0, 0, 0, 0, 9)", "post(2, 1, 1, 5, 7)", "sheet(0, 0, 24)", "sheet(3, 0, 10)",
            "put(3, 0, 111)", "put(3, 1, 49)", "put(3, 2, 104)", "put(3, 3, 53)", "put(3, 4, 45)",
            "put(3, 5, 54)", "put(3, 6, 64)", "put(3, 7, 55)", "put(3, 8, 45)", "put(3, 9, 56)",
            "order(0, 3, 0, 0, 10)", "work(0, 500, 5)", "hands(0, 0, 5)", "week()", "stand(1, 1, 500, 3)",
            "fire(3, 3, 2, 5)", "crew(0, 2)", "place(1, 1, 5, true)", "place(2, 2, 6, true)");
    private static final List<String> CHANGES = List.of("camp(0, 0, 1)", "man()", "post(0, 0, 0, 10, 10)",
            "post(1, 1, 0, 399, 399)", "order(0, 3, 0, 0, 10)", "delay(0, 1)", "delay(4, 30)", "rate(0, 99)",
            "rate(2, 151)", "home(5, 6)", "home(24, 30)", "home(25, 31)", "fine(0, 0, 1)", "fine(1, 399, 1)",
            "work(1, 1, 0)", "hands(0, 0, 4)", "hands(0, 1, 6)", "row(1, 0, 0, 0, 24)", "week()",
            "level(0, 2, 2)", "level(4, 1, 99)", "stand(0, 0, 1, 60)", "fire(40, 40, 60, 1)", "crew(0, 3)",
            "crew(1, 1)", "place(0, 0, 0, false)", "go()", "sheet(1, 0, 0)", "sheet(0, 0, 23)",
            "sheet(0, 1, 24)", "lose(0)", "put(0, 0, 1)", "put(0, 23, 1)", "tell(0)", "roll(0)");

    public static void main(String[] args) {
        for (String change : CHANGES) {
            Check.holds("the probe sees " + change, sees(List.of(), List.of(change)));
        }
        for (String weather : List.of("1", "2")) {
            Check.holds("the probe sees weather " + weather,
                    sees(List.of("put(0, 23, " + weather + ")"), List.of("row(0, 0, 0, 23, 1)")));
        }
        Check.holds("the probe sees nothing where nothing changes", !sees(List.of(), List.of("many(0)")));
        Check.end();
    }

    private static boolean sees(List<String> ahead, List<String> change) {
        for (int part = 0; part < Probe.parts(); part++) {
            long[] without = Probe.look(part, played(SCENE, ahead));
            long[] with = Probe.look(part, played(SCENE, ahead, change));
            if (!Arrays.equals(without, with)) {
                return true;
            }
        }
        return false;
    }

    @SafeVarargs
    private static CampYears played(List<String>... runs) {
        CampYears years = new CampYears();
        for (List<String> run : runs) {
            for (String call : run) {
                new Call(call).on(years);
            }
        }
        return years;
    }
}
