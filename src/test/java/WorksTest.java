/** Promises 18 to 25: works, hands, weather, weeks, and what is told on. */
public final class WorksTest {
    public static void main(String[] args) {
        works();
        hands();
        weathers();
        weatherGoesRound();
        lossesAndEnd();
        counted();
        levels();
        toldOn();
        grew();
        Check.end();
    }

    private static void works() {
        CampYears x = Scenes.withCamps(2);
        Check.due("work camp 2", CampYears.UNKNOWN, x.work(2, 0, 0));
        Check.due("work camp -1", CampYears.UNKNOWN, x.work(-1, 1, 0));
        Check.due("work need 0", CampYears.OUTSIDE, x.work(0, 0, 0));
        Check.due("work need 10000", CampYears.OUTSIDE, x.work(0, 10000, 0));
        Check.due("work tools -1", CampYears.OUTSIDE, x.work(0, 1, -1));
        Check.due("work tools 21", CampYears.OUTSIDE, x.work(0, 1, 21));
        Check.due("work least", 0, x.work(0, 1, 0));
        Check.due("work most", 1, x.work(1, 9999, 20));
        for (int w = 2; w < 8; w++) {
            Check.due("work " + w, w, x.work(0, 5, 5));
        }
        Check.due("work, full", CampYears.FULL, x.work(0, 5, 5));
        Check.due("work, outside ahead of full", CampYears.OUTSIDE, x.work(0, 0, 5));
        Check.due("works", 8, x.many(5));
        Check.due("ofWork of the last", 5, x.ofWork(7, 1));
        Check.due("hands of the last", 0, x.hands(7, 0, 1));
        facts(x, 1, 1, 9999, 0, 0, 0, 0);
        Check.due("ofWork 8", CampYears.UNKNOWN, x.ofWork(8, 9));
        Check.due("ofWork -1", CampYears.UNKNOWN, x.ofWork(-1, 0));
        Check.due("ofWork what 6", CampYears.OUTSIDE, x.ofWork(0, 6));
        Check.due("ofWork what -1", CampYears.OUTSIDE, x.ofWork(0, -1));
    }

    private static void facts(CampYears x, int w, int... facts) {
        for (int what = 0; what < facts.length; what++) {
            Check.due("ofWork(" + w + ", " + what + ")", facts[what], x.ofWork(w, what));
        }
    }

    private static void hands() {
        CampYears x = Scenes.withCamps(1);
        x.work(0, 50, 3);
        Check.due("hands at first", 0, x.hands(0, 0, 20));
        Check.due("hands was", 20, x.hands(0, 0, 0));
        Check.due("tools at first", 3, x.hands(0, 1, 20));
        Check.due("tools was", 20, x.hands(0, 1, 0));
        Check.due("hands work 1", CampYears.UNKNOWN, x.hands(1, 2, 0));
        Check.due("hands work -1", CampYears.UNKNOWN, x.hands(-1, 0, 0));
        Check.due("hands what 2", CampYears.OUTSIDE, x.hands(0, 2, 0));
        Check.due("hands what -1", CampYears.OUTSIDE, x.hands(0, -1, 0));
        Check.due("hands 21", CampYears.OUTSIDE, x.hands(0, 0, 21));
        Check.due("tools -1", CampYears.OUTSIDE, x.hands(0, 1, -1));
        Check.due("hands as they were", 0, x.hands(0, 0, 1));
    }

    private static void weathers() {
        CampYears x = Scenes.withCamps(1);
        Scenes.write(x, 0, 0, 0, 1, 2, 0, 1, 2, 0, 1, 2, 3);
        Check.due("row of one", 1, x.row(0, 0, 0, 9 - 1, 1));
        Check.due("row of eight", 8, x.row(0, 0, 0, 1, 8));
        Check.due("row of none", CampYears.OUTSIDE, x.row(0, 0, 0, 0, 0));
        Check.due("row of nine", CampYears.OUTSIDE, x.row(0, 0, 0, 0, 9));
        Check.due("row with a 3", CampYears.OUTSIDE, x.row(0, 0, 0, 5, 5));
        x.put(0, 0, -1);
        Check.due("row with a -1", CampYears.OUTSIDE, x.row(0, 0, 0, 0, 2));
        Check.due("fault() behind these", 0, x.fault());
        Check.due("row sheet 4", CampYears.UNKNOWN, x.row(2, 4, 3, 0, 1));
        Check.due("row what 2", CampYears.OUTSIDE, x.row(2, 0, 0, 0, 1));
        Check.due("row what -1", CampYears.OUTSIDE, x.row(-1, 0, 0, 0, 1));
        Check.due("row lane 3", CampYears.OUTSIDE, x.row(0, 0, 3, 0, 1));
        fault(x, 2, x.row(0, 0, 1, 99, -1));
        fault(x, 1, x.row(0, 1, 1, 99, -1));
        fault(x, 4, x.row(0, 0, 0, 99, -1));
        fault(x, 3, x.row(0, 0, 0, 9, 2));
        fault(x, 3, x.row(0, 0, 0, 11, 0));
        Check.due("no cell at the end: outside", CampYears.OUTSIDE, x.row(0, 0, 0, 10, 0));
        fault(x, 3, x.row(1, 0, 0, 0, 24));
    }

    private static void fault(CampYears x, int fault, int got) {
        Check.due("row answers", -10 - fault, got);
        Check.due("row's fault()", fault, x.fault());
    }

    private static void weatherGoesRound() {
        CampYears x = Scenes.withCamps(1);
        x.work(0, 9999, 20);
        x.hands(0, 0, 10);
        Check.due("fair at first", 40, x.week());
        Check.due("fair again", 40, x.week());
        Scenes.write(x, 2, 2, 0, 1, 2);
        x.row(0, 2, 2, 0, 3);
        Check.due("week 2 of three", 0, x.week());
        Check.due("week 3 of three", 40, x.week());
        Check.due("week 4 of three", 20, x.week());
        x.put(2, 2, 0);
        Check.due("the sheet is not the weather", 0, x.week());
        x.row(0, 2, 2, 1, 1);
        Check.due("week 6 of one", 20, x.week());
        Check.due("weeks", 7, x.many(6));
        facts(x, 0, 0, 9999, 160, 0, 40 + 20 + 40 + 20, 160);
    }

    private static void lossesAndEnd() {
        CampYears x = Scenes.withCamps(1);
        Check.due("a week with no works", 0, x.week());
        x.work(0, 21, 3);
        x.work(0, 4, 20);
        Check.due("a week with no hands", 0, x.week());
        facts(x, 0, 0, 21, 0, 0, 0, 0);
        x.hands(0, 0, 5);
        x.hands(1, 0, 1);
        Check.due("a week", 16, x.week());
        facts(x, 0, 0, 21, 12, 8, 0, 20);
        facts(x, 1, 0, 4, 4, 0, 0, 10);
        Scenes.write(x, 0, 0, 1);
        x.row(0, 0, 0, 0, 1);
        Check.due("a week of rain", 6, x.week());
        facts(x, 0, 0, 21, 18, 16, 6, 30);
        Check.due("the last week: what is beyond is no loss", 3, x.week());
        facts(x, 0, 0, 21, 21, 24, 12, 40);
        Check.due("all is done", 0, x.week());
        facts(x, 0, 0, 21, 21, 24, 12, 40);
        facts(x, 1, 0, 4, 4, 0, 0, 10);
    }

    private static void counted() {
        CampYears x = Scenes.withCamps(1);
        x.work(0, 9999, 20);
        int[] hands = {0, 1, 2, 3, 5, 10, 20};
        int[] tens = {0, 10, 10, 20, 20, 40, 80};
        int counted = 0;
        for (int k = 0; k < hands.length; k++) {
            x.hands(0, 0, hands[k]);
            x.week();
            counted += tens[k];
            Check.due("counted of " + hands[k], counted, x.ofWork(0, 5));
        }
        Check.due("told(0, -1) is counted", counted, x.told(0, -1));
        for (int need = 1; need <= 30; need++) {
            CampYears y = Scenes.withCamps(1);
            y.work(0, need, 20);
            y.hands(0, 0, 20);
            Check.due("week of need " + need, need, y.week());
            Check.due("counted of need " + need, need <= 10 ? 10 : need <= 20 ? 20 : 30, y.ofWork(0, 5));
        }
    }

    private static void levels() {
        CampYears x = new CampYears();
        for (int k = 0; k < 5; k++) {
            Check.due("level as at first", 0, x.level(k, 1, 1));
        }
        Check.due("level a changes", 1, x.level(0, 0, 1));
        Check.due("level b changes", 1, x.level(0, 0, 99));
        Check.due("level both", 1, x.level(4, 99, 99));
        Check.due("level again", 0, x.level(4, 99, 99));
        Check.due("level -1", CampYears.OUTSIDE, x.level(-1, 1, 1));
        Check.due("level 5", CampYears.OUTSIDE, x.level(5, 1, 1));
        Check.due("level a -1", CampYears.OUTSIDE, x.level(0, -1, 1));
        Check.due("level a 100", CampYears.OUTSIDE, x.level(0, 100, 1));
        Check.due("level b 0", CampYears.OUTSIDE, x.level(0, 1, 0));
        Check.due("level b 100", CampYears.OUTSIDE, x.level(0, 1, 100));
        Check.due("level as it was", 0, x.level(0, 0, 99));
    }

    private static CampYears withCounted(int hands) {
        CampYears x = Scenes.withCamps(1);
        x.work(0, 9999, 20);
        x.hands(0, 0, hands);
        x.week();
        return x;
    }

    private static void toldOn() {
        CampYears x = withCounted(5);
        x.level(0, 3, 7);
        x.level(1, 2, 3);
        x.level(2, 1, 99);
        x.level(3, 99, 1);
        x.level(4, 0, 5);
        long[] due = {20, 9, 6, 1, 99, 0};
        for (int k = -1; k < 5; k++) {
            Check.due("told(0, " + k + ")", due[k + 1], x.told(0, k));
        }
        Check.due("told(0, -2)", CampYears.LOST, x.told(0, -2));
        Check.due("told(0, 5)", CampYears.LOST, x.told(0, 5));
        Check.due("told(1, 0)", CampYears.LOST, x.told(1, 0));
        Check.due("told(-1, 0)", CampYears.LOST, x.told(-1, 0));
        CampYears y = withCounted(20);
        for (int k = 0; k < 5; k++) {
            y.level(k, 99, 1);
        }
        Check.due("told beyond an int", 80L * 99 * 99 * 99 * 99 * 99, y.told(0, 4));
    }

    private static void grew() {
        CampYears x = withCounted(5);
        Check.due("grew by none", CampYears.NONE, x.grew(0));
        x.level(1, 1, 2);
        Check.due("grew less", CampYears.NONE, x.grew(0));
        x.level(2, 2, 1);
        x.level(4, 3, 2);
        Check.due("grew alike: the first", 2, x.grew(0));
        x.level(4, 5, 3);
        Check.due("grew by the most", 4, x.grew(0));
        x.level(0, 99, 1);
        Check.due("grew by 0, the most of all", 0, x.grew(0));
        Check.due("grew work 1", CampYears.UNKNOWN, x.grew(1));
        Check.due("grew work -1", CampYears.UNKNOWN, x.grew(-1));
        CampYears one = withCounted(5);
        one.level(3, 21, 20);
        Check.due("grew by just one", 3, one.grew(0));
        CampYears y = withCounted(0);
        y.level(0, 99, 1);
        Check.due("grew of nothing", CampYears.NONE, y.grew(0));
    }
}
