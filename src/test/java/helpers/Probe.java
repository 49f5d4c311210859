import java.util.ArrayList;
import java.util.Arrays;
import java.util.List;

/**
 * Looks at all of an object that can be seen: by questions, by calls that answer what something was,
 * and by calls that show something in what comes of them. Some looks change the object, so each part
 * wants one of its own; none makes more than MOST_CALLS calls, so that the document still speaks of them.
 */
final class Probe {
    static final int MOST_CALLS = 300;

    private interface Part {
        void look(Probe seen, CampYears x);
    }

    private static final int[] DAYS = {0, 1, 4, 5, 6, 7, 8, 9, 10, 11, 12, 19, 20, 21, 30, 31, 398, 399};
    private static final int[] FEW_DAYS = {0, 5, 7, 10, 399};
    private static final int[] HOURS = {0, 1, 5, 6, 7, 8, 12, 22, 23};
    private static final int[] YEARS = {0, 1, 2, 10, 11, 59, 60, 61, 62, 99};
    private static final int[] ORDER_TEXT = {111, 50, 104, 48, 45, 48, 64, 48, 45, 48};

    private static final List<Part> PARTS = allParts();

    private final long[] answers = new long[MOST_CALLS];
    private int count;

    private Probe() {
    }

    static int parts() {
        return PARTS.size();
    }

    static long[] look(int part, CampYears years) {
        Probe seen = new Probe();
        PARTS.get(part).look(seen, years);
        return Arrays.copyOf(seen.answers, seen.count);
    }

    private void see(long answer) {
        if (count == MOST_CALLS) {
            throw new IllegalStateException("a part makes too many calls");
        }
        answers[count] = answer;
        count++;
    }

    private static List<Part> allParts() {
        List<Part> parts = new ArrayList<>(List.of(Probe::counts, Probe::camps, Probe::men, Probe::posts,
                Probe::orders, Probe::quarrels, Probe::delaysAndRates, Probe::home, Probe::pay, Probe::fines));
        parts.addAll(List.of(Probe::works, Probe::weeks, Probe::levels, Probe::stands, Probe::table));
        parts.addAll(List.of(Probe::calls, Probe::fullCrews, Probe::moves, Probe::gains));
        parts.addAll(List.of(Probe::roomLeft, Probe::roomForPosts, Probe::roomForOrders));
        for (int k = 0; k < 7; k++) {
            int camp = k;
            parts.add((seen, x) -> seen.words(x, camp));
        }
        for (int k = 0; k < 4; k++) {
            int sheet = k;
            parts.add((seen, x) -> seen.cells(x, sheet));
        }
        return parts;
    }

    private void counts(CampYears x) {
        for (int what = 0; what < 10; what++) {
            see(x.many(what));
        }
        see(x.trace());
    }

    private void camps(CampYears x) {
        for (int c = 0; c < 7; c++) {
            see(x.over(c));
            see(x.spot(c, 0));
            see(x.spot(c, 1));
            for (int day : DAYS) {
                see(x.beds(c, day));
            }
        }
    }

    private void men(CampYears x) {
        for (int m = 0; m < 20; m++) {
            for (int k = 0; k < DAYS.length - 4; k++) {
                see(x.day(m, DAYS[k]));
            }
            see(x.day(m, 399));
        }
    }

    private void posts(CampYears x) {
        for (int p = 0; p < 30; p++) {
            see(x.as(p, 1));
            see(x.as(p, 2));
            see(x.tell(p));
            see(x.roll(p));
            see(x.trace());
        }
    }

    private void orders(CampYears x) {
        for (int o = 0; o < 12; o++) {
            for (int what = 0; what < 7; what++) {
                see(x.ofOrder(o, what));
            }
        }
    }

    private void words(CampYears x, int camp) {
        for (int office = 0; office < 5; office++) {
            for (int hour : HOURS) {
                for (int day : FEW_DAYS) {
                    see(x.why(camp, hour, day, office));
                }
            }
        }
        see(x.word(camp, 0, 0, 0));
    }

    private void quarrels(CampYears x) {
        for (int c = 0; c < 7; c++) {
            for (int day : DAYS) {
                see(x.quarrel(c, day));
            }
        }
    }

    private void delaysAndRates(CampYears x) {
        for (int office = 0; office < 5; office++) {
            see(x.delay(office, 0));
        }
        for (int kind = 0; kind < 3; kind++) {
            see(x.rate(kind, 0));
        }
        see(x.home(25, 30));
    }

    /** Rates that show the share of what is sent home, where there is anybody to send it. */
    private void home(CampYears x) {
        see(x.camp(0, 0, 9));
        see(x.man());
        see(x.post(0, 0, 0, 377, 377));
        for (int kind = 0; kind < 3; kind++) {
            see(x.rate(kind, 997));
        }
        for (int m = 0; m < 20; m++) {
            see(x.pay(m, 0, 399, 1));
        }
        see(x.home(25, 30));
    }

    private void pay(CampYears x) {
        for (int m = 0; m < 20; m++) {
            for (int what = 0; what < 5; what++) {
                see(x.pay(m, 0, 399, what));
                see(x.pay(m, 5, 10, what));
            }
        }
    }

    private void fines(CampYears x) {
        for (int m = 0; m < 20; m++) {
            for (int day : FEW_DAYS) {
                see(x.pay(m, day, day, 2));
                see(x.pay(m, day, day, 4));
            }
        }
    }

    private void works(CampYears x) {
        for (int w = 0; w < 8; w++) {
            for (int what = 0; what < 6; what++) {
                see(x.ofWork(w, what));
            }
            for (int k = -1; k < 5; k++) {
                see(x.told(w, k));
            }
            see(x.grew(w));
            see(x.hands(w, 0, 0));
            see(x.hands(w, 1, 0));
        }
    }

    private void workHard(CampYears x) {
        see(x.camp(0, 0, 1));
        see(x.work(0, 9999, 20));
        for (int w = 0; w < 8; w++) {
            see(x.hands(w, 0, 19));
            see(x.hands(w, 1, 17));
        }
    }

    private void weeks(CampYears x) {
        workHard(x);
        for (int n = 0; n < 17; n++) {
            see(x.week());
            see(x.ofWork(n % 8, 4));
        }
    }

    private void levels(CampYears x) {
        workHard(x);
        see(x.week());
        for (int w = 0; w < 8; w++) {
            for (int k = 0; k < 5; k++) {
                see(x.told(w, k));
            }
        }
        for (int k = 0; k < 5; k++) {
            see(x.level(k, 1, 1));
        }
    }

    private void stands(CampYears x) {
        for (int s = 0; s < 12; s++) {
            for (int year : YEARS) {
                see(x.live(s, year));
            }
        }
        for (int kind = 0; kind < 5; kind++) {
            for (int year : YEARS) {
                see(x.forest(kind, year));
            }
        }
    }

    private void table(CampYears x) {
        for (int kind = 0; kind < 4; kind++) {
            for (int slope = 0; slope < 3; slope++) {
                see(x.stand(kind, slope, 99991, 20));
            }
        }
        for (int s = 0; s < 12; s++) {
            for (int year = 20; year < 24; year++) {
                see(x.live(s, year));
            }
        }
    }

    private void calls(CampYears x) {
        for (int camp = -2; camp < 7; camp++) {
            see(x.call(camp));
        }
        for (int call = 0; call < 100; call++) {
            see(x.lost(call));
            see(x.lost(161 * call));
        }
    }

    private void fullCrews(CampYears x) {
        see(x.camp(13, 27, 1));
        for (int c = 0; c < 7; c++) {
            see(x.crew(c, 9 - c));
        }
        calls(x);
    }

    private void moves(CampYears x) {
        for (int round = 0; round < 2; round++) {
            for (int camp = -1; camp < 7; camp++) {
                see(x.move(camp));
            }
            see(x.go());
            for (int c = 0; c < 7; c++) {
                see(x.spot(c, 0));
                see(x.spot(c, 1));
            }
        }
    }

    /** Sends the camps to places that follow one another, by every place that can be the first. */
    private void gains(CampYears x) {
        see(x.sheet(0, 2, 7));
        for (int first = 0; first < 8; first++) {
            for (int c = 0; c < 7; c++) {
                see(x.put(0, c, (first + c) % 8));
            }
            see(x.gain(0, 2, 0, x.many(0)));
        }
    }

    private void cells(CampYears x, int k) {
        for (int i = 0; i <= 60; i++) {
            for (int lane = 0; lane < 3; lane++) {
                see(x.cell(k, i, lane));
            }
        }
        see(x.lose(k));
    }

    private void roomLeft(CampYears x) {
        for (int n = 0; n < 8; n++) {
            see(x.camp(n, n, 1));
        }
        for (int n = 0; n < 21; n++) {
            see(x.man());
        }
        for (int n = 0; n < 31; n++) {
            see(x.fine(n % 20, 20, 1));
        }
        for (int n = 0; n < 13; n++) {
            see(x.work(0, 1, 1));
            see(x.stand(0, 0, 1, 0));
            see(x.fire(0, 0, 1, 1));
            see(x.place(0, 0, 0, true));
        }
    }

    private void roomForPosts(CampYears x) {
        see(x.camp(0, 0, 1));
        see(x.man());
        for (int day = 0; day < 62; day++) {
            see(x.post(0, 0, 0, 6 * day, 6 * day));
        }
    }

    private void roomForOrders(CampYears x) {
        see(x.sheet(3, 0, ORDER_TEXT.length));
        for (int i = 0; i < ORDER_TEXT.length; i++) {
            see(x.put(3, i, ORDER_TEXT[i]));
        }
        for (int n = 0; n < 13; n++) {
            see(x.order(n, 3, 0, 0, ORDER_TEXT.length));
        }
    }
}
