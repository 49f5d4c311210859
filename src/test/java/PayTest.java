/** Promises 14 to 17: rates, home, fines and pay. */
public final class PayTest {
    public static void main(String[] args) {
        rates();
        homes();
        fines();
        pay();
        finesAndPay();
        mostOfAll();
        refusalsOfPay();
        Check.end();
    }

    private static void rates() {
        CampYears x = new CampYears();
        Check.due("rate 0 at first", 100, x.rate(0, 999));
        Check.due("rate 1 at first", 120, x.rate(1, 0));
        Check.due("rate 2 at first", 150, x.rate(2, 7));
        Check.due("rate 1000", CampYears.OUTSIDE, x.rate(0, 1000));
        Check.due("rate -1", CampYears.OUTSIDE, x.rate(0, -1));
        Check.due("rate kind 3", CampYears.OUTSIDE, x.rate(3, 1));
        Check.due("rate kind -1", CampYears.OUTSIDE, x.rate(-1, 1));
        Check.due("rate 0 was", 999, x.rate(0, 1));
        Check.due("rate 1 was", 0, x.rate(1, 1));
        Check.due("rate 2 was", 7, x.rate(2, 1));
    }

    private static void homes() {
        CampYears x = new CampYears();
        Check.due("home as at first", 0, x.home(25, 30));
        Check.due("home, alike but told otherwise", 1, x.home(5, 6));
        Check.due("home, all", 1, x.home(100, 100));
        Check.due("home, none", 1, x.home(0, 100));
        Check.due("home b changes alone", 1, x.home(0, 1));
        Check.due("home again", 0, x.home(0, 1));
        Check.due("home b 0", CampYears.OUTSIDE, x.home(0, 0));
        Check.due("home b 101", CampYears.OUTSIDE, x.home(1, 101));
        Check.due("home a -1", CampYears.OUTSIDE, x.home(-1, 5));
        Check.due("home a above b", CampYears.OUTSIDE, x.home(6, 5));
        Check.due("home b -1", CampYears.OUTSIDE, x.home(-1, -1));
        Check.due("home as it was", 0, x.home(0, 1));
    }

    private static void fines() {
        CampYears x = Scenes.withMen(1, 1);
        Check.due("fine man 1", CampYears.UNKNOWN, x.fine(1, 400, 0));
        Check.due("fine man -1", CampYears.UNKNOWN, x.fine(-1, 0, 1));
        Check.due("fine day -1", CampYears.OUTSIDE, x.fine(0, -1, 1));
        Check.due("fine day 400", CampYears.OUTSIDE, x.fine(0, 400, 1));
        Check.due("fine 0", CampYears.OUTSIDE, x.fine(0, 0, 0));
        Check.due("fine 10000", CampYears.OUTSIDE, x.fine(0, 0, 10000));
        for (int n = 1; n <= 30; n++) {
            Check.due("fine " + n, n, x.fine(0, 399, 9999));
        }
        Check.due("fine, full", CampYears.FULL, x.fine(0, 0, 1));
        Check.due("fine, outside ahead of full", CampYears.OUTSIDE, x.fine(0, 0, 0));
        Check.due("fines", 30, x.many(4));
        Check.due("owed of thirty", 30 * 9999, x.pay(0, 399, 399, 4));
    }

    private static void all(CampYears x, int man, int from, int till, int... due) {
        for (int what = 0; what < 5; what++) {
            Check.due("pay(" + man + ", " + from + ", " + till + ", " + what + ")", due[what], x.pay(man, from, till, what));
        }
    }

    private static void pay() {
        CampYears x = Scenes.withMen(1, 2);
        x.post(0, 0, 0, 10, 19);
        x.post(1, 0, 0, 20, 20);
        x.post(2, 0, 0, 30, 31);
        all(x, 0, 0, 399, 1420, 1183, 0, 237, 0);
        all(x, 0, 19, 30, 370, 308, 0, 62, 0);
        all(x, 0, 21, 29, 0, 0, 0, 0, 0);
        all(x, 0, 10, 10, 100, 83, 0, 17, 0);
        all(x, 1, 0, 399, 0, 0, 0, 0, 0);
        x.rate(1, 1);
        all(x, 0, 20, 20, 1, 0, 0, 1, 0);
        x.home(1, 1);
        all(x, 0, 20, 20, 1, 1, 0, 0, 0);
        x.home(0, 7);
        all(x, 0, 20, 20, 1, 0, 0, 1, 0);
    }

    private static void finesAndPay() {
        CampYears x = Scenes.withMen(1, 2);
        x.post(0, 0, 0, 0, 9);
        x.home(1, 2);
        x.fine(0, 5, 499);
        all(x, 0, 0, 9, 1000, 500, 499, 1, 0);
        x.fine(0, 9, 1);
        all(x, 0, 0, 9, 1000, 500, 500, 0, 0);
        x.fine(0, 10, 77);
        all(x, 0, 0, 9, 1000, 500, 500, 0, 0);
        all(x, 0, 0, 10, 1000, 500, 500, 0, 77);
        all(x, 0, 10, 10, 0, 0, 0, 0, 77);
        all(x, 0, 5, 5, 100, 50, 50, 0, 449);
        all(x, 0, 6, 8, 300, 150, 0, 150, 0);
        x.fine(1, 5, 3);
        all(x, 0, 5, 5, 100, 50, 50, 0, 449);
        all(x, 1, 5, 5, 0, 0, 0, 0, 3);
    }

    private static void mostOfAll() {
        CampYears x = Scenes.withMen(1, 1);
        x.rate(2, 999);
        x.post(2, 0, 0, 0, 399);
        x.home(99, 100);
        all(x, 0, 0, 399, 399600, 395604, 0, 3996, 0);
        x.home(100, 100);
        all(x, 0, 0, 399, 399600, 399600, 0, 0, 0);
    }

    private static void refusalsOfPay() {
        CampYears x = Scenes.withMen(1, 1);
        Check.due("pay man 1", CampYears.UNKNOWN, x.pay(1, 5, 4, 9));
        Check.due("pay man -1", CampYears.UNKNOWN, x.pay(-1, 0, 1, 0));
        Check.due("pay from -1", CampYears.OUTSIDE, x.pay(0, -1, 1, 0));
        Check.due("pay till 400", CampYears.OUTSIDE, x.pay(0, 0, 400, 0));
        Check.due("pay till ahead of from", CampYears.OUTSIDE, x.pay(0, 2, 1, 0));
        Check.due("pay what 5", CampYears.OUTSIDE, x.pay(0, 0, 1, 5));
        Check.due("pay what -1", CampYears.OUTSIDE, x.pay(0, 0, 1, -1));
    }
}
