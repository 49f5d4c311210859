/** Promises 42 to 47: telling, rolling, kinds, trace, fault and how many there are. */
public final class PartsTest {
    public static void main(String[] args) {
        tells();
        rolls();
        kinds();
        traceWraps();
        fullPosts();
        faultOfWhichCalls();
        howMany();
        Check.end();
    }

    /** Posts 0 to 2 of the kinds 0 to 2, of ten days each, and post 3, a post of all days. */
    private static CampYears withPosts() {
        CampYears x = Scenes.withMen(1, 2);
        for (int kind = 0; kind < 3; kind++) {
            x.post(kind, 0, 0, 10 * kind, 10 * kind + 9);
        }
        x.post(0, 1, 0, 0, 399);
        return x;
    }

    private static int trace(int... bodies) {
        int trace = 0;
        for (int body : bodies) {
            trace = 31 * trace + body;
        }
        return trace;
    }

    private static void tells() {
        CampYears x = withPosts();
        Check.due("tell -1", CampYears.UNKNOWN, x.tell(-1));
        Check.due("tell 4", CampYears.UNKNOWN, x.tell(4));
        Check.due("trace of none", 0, x.trace());
        Check.due("tell a post", 10, x.tell(0));
        Check.due("trace of a post", trace(1), x.trace());
        Check.due("tell a leader", 18, x.tell(1));
        Check.due("trace of a leader", trace(1, 2, 1), x.trace());
        Check.due("tell a chief", 28, x.tell(2));
        Check.due("trace of a chief", trace(1, 2, 1, 3, 2, 1, 1), x.trace());
        Check.due("tell all days", 400, x.tell(3));
        Check.due("tell 30", CampYears.UNKNOWN, x.tell(30));
        Check.due("tell far away", CampYears.UNKNOWN, x.tell(Integer.MAX_VALUE));
        Check.due("tell far below", CampYears.UNKNOWN, x.tell(Integer.MIN_VALUE));
        Check.due("trace asked for changes nothing", x.trace(), x.trace());
    }

    private static void rolls() {
        CampYears x = withPosts();
        Check.due("roll -1", CampYears.UNKNOWN, x.roll(-1));
        Check.due("roll 4", CampYears.UNKNOWN, x.roll(4));
        Check.due("trace of none", 0, x.trace());
        Check.due("roll a leader", 1, x.roll(1));
        Check.due("trace of a leader", trace(4), x.trace());
        Check.due("roll a post", 3, x.roll(3));
        Check.due("trace of a post", trace(4, 4), x.trace());
        Check.due("roll a chief", 66, x.roll(2));
        Check.due("trace of a chief", trace(4, 4, 5), x.trace());
        Check.due("roll post 0", 0, x.roll(0));
        Check.due("roll 30", CampYears.UNKNOWN, x.roll(30));
    }

    private static void kinds() {
        CampYears x = withPosts();
        for (int p = 0; p < 3; p++) {
            for (int kind = 0; kind < 3; kind++) {
                Check.due("as(" + p + ", " + kind + ")", kind <= p ? 1 : -12, x.as(p, kind));
                Check.due("fault() of as(" + p + ", " + kind + ")", kind <= p ? 0 : 2, x.fault());
            }
        }
        x.as(0, 2);
        Check.due("as(4, 3)", CampYears.UNKNOWN, x.as(4, 3));
        Check.due("its fault()", 0, x.fault());
        x.as(0, 2);
        Check.due("as(0, 3)", CampYears.OUTSIDE, x.as(0, 3));
        Check.due("its fault(), too", 0, x.fault());
        Check.due("as(0, -1)", CampYears.OUTSIDE, x.as(0, -1));
        Check.due("as(-1, 0)", CampYears.UNKNOWN, x.as(-1, 0));
        Check.due("as leaves no trace", 0, x.trace());
    }

    private static void traceWraps() {
        CampYears x = withPosts();
        int[] bodies = new int[40];
        for (int k = 0; k < 40; k++) {
            x.roll(2);
            bodies[k] = 5;
        }
        Check.due("trace that wraps", trace(bodies), x.trace());
    }

    private static void fullPosts() {
        CampYears x = Scenes.withMen(1, 1);
        for (int p = 0; p < 30; p++) {
            x.post(p % 3, 0, 0, p, p);
        }
        Check.due("tell 29", 10, x.tell(29));
        Check.due("roll 28", 28, x.roll(28));
        Check.due("as(29, 2)", 1, x.as(29, 2));
        Check.due("tell 30 of 30", CampYears.UNKNOWN, x.tell(30));
        Check.due("as(30, 0) of 30", CampYears.UNKNOWN, x.as(30, 0));
    }

    private static void faultOfWhichCalls() {
        CampYears x = withPosts();
        x.put(0, 0, 0);
        Check.due("fault of put", 1, x.fault());
        Check.due("fault asked again", 1, x.fault());
        x.camp(-1, 0, 0);
        x.man();
        x.post(0, 0, 9, 0, 0);
        x.day(0, 0);
        x.week();
        x.lose(9);
        x.tell(9);
        x.roll(0);
        x.trace();
        x.many(0);
        x.go();
        x.call(-1);
        x.move(-1);
        x.level(9, 9, 9);
        x.ofOrder(9, 9);
        Check.due("fault stays by calls that name none", 1, x.fault());
        x.order(0, 9, 0, 0, 0);
        Check.due("fault of an order that is refused", 0, x.fault());
        setFault(x);
        x.row(9, 0, 0, 0, 0);
        Check.due("fault of a row that is refused", 0, x.fault());
        setFault(x);
        x.gain(9, 0, 0, 0);
        Check.due("fault of a gain that is refused", 0, x.fault());
        setFault(x);
        x.sheet(1, 0, 1);
        Check.due("fault of a sheet", 0, x.fault());
        setFault(x);
        x.put(1, 0, 1);
        Check.due("fault of a good put", 0, x.fault());
        setFault(x);
        x.cell(1, 0, 0);
        Check.due("fault of a good cell", 0, x.fault());
        setFault(x);
        x.as(0, 0);
        Check.due("fault of a good as", 0, x.fault());
    }

    private static void setFault(CampYears x) {
        x.put(0, 0, 0);
        Check.due("fault is there", 1, x.fault());
    }

    private static void howMany() {
        CampYears x = Scenes.withMen(2, 3);
        for (int n = 0; n < 4; n++) {
            x.post(0, 0, 0, n, n);
        }
        for (int n = 0; n < 5; n++) {
            Scenes.order(x, 0, "o1h1-1@1-1");
        }
        for (int n = 0; n < 6; n++) {
            x.fine(0, 0, 1);
        }
        for (int n = 0; n < 7; n++) {
            x.work(0, 1, 1);
        }
        for (int n = 0; n < 9; n++) {
            x.week();
        }
        for (int n = 0; n < 10; n++) {
            x.stand(0, 0, 1, 0);
        }
        x.fire(0, 0, 1, 1);
        for (int n = 0; n < 8; n++) {
            x.place(0, 0, 0, true);
        }
        int[] due = {2, 3, 4, 5, 6, 7, 9, 10, 1, 8};
        for (int what = 0; what < 10; what++) {
            Check.due("many(" + what + ")", due[what], x.many(what));
        }
        Check.due("many(-1)", CampYears.OUTSIDE, x.many(-1));
        Check.due("many(10)", CampYears.OUTSIDE, x.many(10));
    }
}
