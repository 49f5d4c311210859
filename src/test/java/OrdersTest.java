/** Promises 8 to 13: orders by texts, who has heard of them, and quarrels. */
public final class OrdersTest {
    private static CampYears camps3;

    public static void main(String[] args) {
        goodTexts();
        texts();
        textsOfCamps();
        cellsOfText();
        refusalsOfOrder();
        fullOrders();
        delays();
        words();
        leftOut();
        quarrels();
        Check.end();
    }

    private static void facts(CampYears x, int o, int... facts) {
        for (int what = 0; what < facts.length; what++) {
            Check.due("ofOrder(" + o + ", " + what + ")", facts[what], x.ofOrder(o, what));
        }
    }

    private static void goodTexts() {
        CampYears x = Scenes.withCamps(7);
        Check.due("least text", 0, Scenes.order(x, 0, "o0h0-0@0-0"));
        Check.due("greatest numbers", 1, Scenes.order(x, 399, "o4h23-23@399-399!6543210"));
        Check.due("zeros ahead", 2, Scenes.order(x, 7, "o2h06-08@005-012!25"));
        Check.due("equal numbers", 3, Scenes.order(x, 8, "o3h9-9@77-77"));
        facts(x, 0, 0, 0, 0, 0, 0, 0, 0);
        facts(x, 1, 4, 23, 23, 399, 399, 127, 399);
        facts(x, 2, 2, 6, 8, 5, 12, 4 + 32, 7);
        facts(x, 3, 3, 9, 9, 77, 77, 0, 8);
        Check.due("orders", 4, x.many(3));
        Check.due("ofOrder 4", CampYears.UNKNOWN, x.ofOrder(4, 7));
        Check.due("ofOrder -1", CampYears.UNKNOWN, x.ofOrder(-1, 0));
        Check.due("ofOrder what -1", CampYears.OUTSIDE, x.ofOrder(0, -1));
        Check.due("ofOrder what 7", CampYears.OUTSIDE, x.ofOrder(0, 7));
    }

    /** The first fault of a text where there are camps 0 to 2. */
    private static void faulty(String text, int place) {
        Check.due("text " + text, -100 - place, Scenes.order(camps3, 0, text));
        Check.due("fault() of text " + text, 0, camps3.fault());
        Check.due("no order came of " + text, 0, camps3.many(3));
    }

    private static void texts() {
        camps3 = Scenes.withCamps(3);
        String whole = "o1h5-6@7-8";
        for (int end = 0; end < whole.length(); end++) {
            faulty(whole.substring(0, end), end);
        }
        for (int at = 0; at < whole.length(); at++) {
            faulty(whole.substring(0, at) + "x" + whole.substring(at + 1), at);
        }
        faulty("O1h5-6@7-8", 0);
        faulty("o5h5-6@7-8", 1);
        faulty("o9", 1);
        faulty("o10h5-6@7-8", 2);
        faulty("o1h24-25@7-8", 3);
        faulty("o1h24", 3);
        faulty("o1h123-6@7-8", 5);
        faulty("o1h245-6@7-8", 3);
        faulty("o1h005-6@7-8", 5);
        faulty("o1h5-24@7-8", 5);
        faulty("o1h5-4@7-8", 5);
        faulty("o1h15-1", 6);
        faulty("o1h15-123@7-8", 6);
        faulty("o1h5-123@7-8", 7);
        faulty("o1h5-6@400-401", 7);
        faulty("o1h5-6@3991-3992", 10);
        faulty("o1h5-6@7-6", 9);
        faulty("o1h5-6@7-400", 9);
        faulty("o1h5-6@7-3991", 12);
        faulty("o1h5-6@7-0068", 9);
        faulty("o1h5-6@7-0188", 12);
        faulty("o1h5-6@7-8 ", 10);
        faulty("o1h-6@7-8", 3);
        faulty("o1h5--6@7-8", 5);
    }

    private static void textsOfCamps() {
        camps3 = Scenes.withCamps(3);
        faulty("o1h5-6@7-8!", 11);
        faulty("o1h5-6@7-8!x", 11);
        faulty("o1h5-6@7-8!!", 11);
        faulty("o1h5-6@7-8!3", 11);
        faulty("o1h5-6@7-8!9", 11);
        faulty("o1h5-6@7-8!00", 12);
        faulty("o1h5-6@7-8!0121", 14);
        faulty("o1h5-6@7-8!01x", 13);
        faulty("o1h5-6@7-8!01!", 13);
        faulty("o1h5-6@7-8!0123", 14);
        CampYears none = new CampYears();
        Check.due("no camp can be left out where there is none", -111, Scenes.order(none, 0, "o1h5-6@7-8!0"));
        Check.due("an order where there is no camp", 0, Scenes.order(none, 0, "o1h5-6@7-8"));
    }

    private static void cellsOfText() {
        CampYears x = Scenes.withCamps(1);
        String text = "zzo1h5-6@7-8zz";
        x.sheet(1, 2, text.length());
        for (int i = 0; i < text.length(); i++) {
            x.put(1, i, text.charAt(i));
        }
        Check.due("a text in the middle", 0, x.order(3, 1, 2, 2, 10));
        Check.due("places are told from the text's start on", -110, x.order(3, 1, 2, 2, 11));
        for (int n = 0; n < 10; n++) {
            Check.due("a text that ends too soon, at " + n, -100 - n, x.order(3, 1, 2, 2, n));
        }
        Check.due("a text of no cells", -100, x.order(3, 1, 2, 14, 0));
        x.put(1, 2, 111 + 256);
        Check.due("an int is no byte", -100, x.order(3, 1, 2, 2, 10));
    }

    private static void refusalsOfOrder() {
        CampYears x = Scenes.withCamps(1);
        x.sheet(0, 1, 5);
        Check.due("order sheet -1", CampYears.UNKNOWN, x.order(400, -1, 3, 0, 1));
        Check.due("order sheet 4", CampYears.UNKNOWN, x.order(0, 4, 1, 0, 1));
        Check.due("order day -1", CampYears.OUTSIDE, x.order(-1, 0, 1, 0, 1));
        Check.due("order day 400", CampYears.OUTSIDE, x.order(400, 0, 1, 0, 1));
        Check.due("order lane -1", CampYears.OUTSIDE, x.order(0, 0, -1, 0, 1));
        Check.due("order lane 3", CampYears.OUTSIDE, x.order(0, 0, 3, 0, 1));
        fault(x, 2, x.order(0, 0, 0, 9, -1), "cast ahead of size");
        fault(x, 1, x.order(0, 1, 1, 9, -1), "null ahead of size; nothing is no cast");
        fault(x, 4, x.order(0, 0, 1, 9, -1), "size ahead of index");
        fault(x, 3, x.order(0, 0, 1, -1, 0), "index -1, if none is taken too");
        fault(x, 3, x.order(0, 0, 1, 6, 0), "index beyond all, if none is taken too");
        fault(x, 3, x.order(0, 0, 1, 1, 5), "one cell too many");
        fault(x, 3, x.order(0, 0, 1, 5, 1), "one cell behind the last");
        fault(x, 3, x.order(0, 0, 1, 1, Integer.MAX_VALUE), "far too many cells");
        fault(x, 3, x.order(0, 0, 1, Integer.MAX_VALUE, Integer.MAX_VALUE), "far away");
        fault(x, 3, x.order(0, 0, 1, Integer.MIN_VALUE, 1), "far ahead");
        Check.due("no cell at the end is a text too short", -100, x.order(0, 0, 1, 5, 0));
        Check.due("which is no fault of the machine", 0, x.fault());
        x.order(0, 0, 1, 5, 1);
        x.order(0, 4, 1, 5, 1);
        Check.due("fault() behind a refusal", 0, x.fault());
    }

    private static void fault(CampYears x, int fault, long got, String what) {
        Check.due(what, -10 - fault, got);
        Check.due("fault(): " + what, fault, x.fault());
    }

    private static void fullOrders() {
        CampYears x = Scenes.withCamps(1);
        for (int o = 0; o < 12; o++) {
            Check.due("order " + o, o, Scenes.order(x, o, "o1h5-6@7-8"));
        }
        Check.due("order, full", CampYears.FULL, Scenes.order(x, 0, "o1h5-6@7-8"));
        Check.due("order, a faulty text ahead of full", -101, Scenes.order(x, 0, "o7h5-6@7-8"));
        Check.due("order, a fault ahead of full", -13, x.order(0, 3, 0, 0, 60));
        Check.due("orders, full", 12, x.many(3));
        Check.due("why on day 8: later ones are not given yet", 8, x.why(0, 5, 8, 0));
        Check.due("why on day 7", 7, x.why(0, 5, 7, 0));
        Check.due("ofOrder 11", 11, x.ofOrder(11, 6));
        Check.due("ofOrder 12 of 12", CampYears.UNKNOWN, x.ofOrder(12, 0));
        CampYears y = Scenes.withCamps(1);
        for (int o = 0; o < 12; o++) {
            Scenes.order(y, 0, "o3h0-0@0-0");
        }
        Check.due("why of twelve, hour 0, day 0", 11, y.why(0, 0, 0, 4));
        Check.due("word of twelve", 3, y.word(0, 0, 0, 4));
    }

    private static void delays() {
        CampYears x = Scenes.withCamps(1);
        Check.due("delay at first", 0, x.delay(4, 30));
        Check.due("delay was", 30, x.delay(4, 1));
        Check.due("delay office 5", CampYears.UNKNOWN, x.delay(5, 31));
        Check.due("delay office -1", CampYears.UNKNOWN, x.delay(-1, 0));
        Check.due("delay 31", CampYears.OUTSIDE, x.delay(4, 31));
        Check.due("delay -1", CampYears.OUTSIDE, x.delay(4, -1));
        Check.due("delay as it was", 1, x.delay(4, 0));
        Check.due("delay of another", 0, x.delay(0, 0));
    }

    private static void words() {
        CampYears x = Scenes.withCamps(2);
        Scenes.order(x, 10, "o1h6-8@10-20");
        Scenes.order(x, 12, "o2h7-9@5-30");
        x.delay(3, 5);
        word(x, 0, 6, 10, 0, 0, 1);
        word(x, 0, 7, 10, 0, 0, 1);
        word(x, 0, 7, 12, 0, 1, 2);
        word(x, 0, 6, 12, 0, 0, 1);
        word(x, 1, 9, 12, 0, 1, 2);
        word(x, 0, 8, 20, 0, 1, 2);
        word(x, 0, 6, 20, 0, 0, 1);
        none(x, 0, 6, 21, 0);
        none(x, 0, 9, 11, 0);
        none(x, 0, 5, 12, 0);
        none(x, 0, 10, 12, 0);
        none(x, 0, 9, 31, 0);
        none(x, 0, 7, 14, 3);
        word(x, 0, 7, 15, 3, 0, 1);
        word(x, 0, 7, 16, 3, 0, 1);
        word(x, 0, 7, 17, 3, 1, 2);
        x.delay(3, 0);
        word(x, 0, 7, 14, 3, 1, 2);
        Check.due("word camp 2", CampYears.UNKNOWN, x.word(2, 24, 0, 0));
        Check.due("word office 5", CampYears.UNKNOWN, x.word(0, 24, 0, 5));
        Check.due("word office -1", CampYears.UNKNOWN, x.word(0, 0, 0, -1));
        Check.due("word hour 24", CampYears.OUTSIDE, x.word(0, 24, 0, 0));
        Check.due("word hour -1", CampYears.OUTSIDE, x.word(0, -1, 0, 0));
        Check.due("word day 400", CampYears.OUTSIDE, x.word(0, 0, 400, 0));
        Check.due("word day -1", CampYears.OUTSIDE, x.word(0, 0, -1, 0));
        Check.due("why camp -1", CampYears.UNKNOWN, x.why(-1, 24, 0, 0));
        Check.due("why office 5", CampYears.UNKNOWN, x.why(0, 24, 0, 5));
        Check.due("why hour 24", CampYears.OUTSIDE, x.why(0, 24, 0, 0));
        Check.due("why day 400", CampYears.OUTSIDE, x.why(0, 0, 400, 0));
    }

    private static void word(CampYears x, int camp, int hour, int day, int office, int why, int word) {
        String of = "(" + camp + ", " + hour + ", " + day + ", " + office + ")";
        Check.due("why" + of, why, x.why(camp, hour, day, office));
        Check.due("word" + of, word, x.word(camp, hour, day, office));
    }

    private static void none(CampYears x, int camp, int hour, int day, int office) {
        word(x, camp, hour, day, office, CampYears.NONE, CampYears.NONE);
    }

    private static void leftOut() {
        CampYears x = Scenes.withCamps(3);
        Scenes.order(x, 0, "o1h0-23@0-399");
        Scenes.order(x, 0, "o2h0-23@0-399!02");
        x.camp(9, 9, 1);
        word(x, 0, 3, 3, 0, 0, 1);
        word(x, 1, 3, 3, 0, 1, 2);
        word(x, 2, 3, 3, 0, 0, 1);
        word(x, 3, 3, 3, 0, 1, 2);
    }

    private static void quarrels() {
        CampYears x = Scenes.withCamps(2);
        Scenes.order(x, 0, "o1h6-8@0-99");
        Scenes.order(x, 5, "o2h8-10@0-99!1");
        Check.due("quarrel: all have heard", 0, x.quarrel(0, 5));
        x.delay(1, 3);
        Check.due("quarrel: 1 has not heard of 2", 1 << 8, x.quarrel(0, 5));
        Check.due("quarrel: to the last day", 1 << 8, x.quarrel(0, 7));
        Check.due("quarrel: 1 has heard", 0, x.quarrel(0, 8));
        Check.due("quarrel: where the order leaves out", 0, x.quarrel(1, 5));
        x.delay(1, 0);
        x.delay(3, 3);
        Check.due("3 has heard of 1 alone", 1, x.word(0, 8, 5, 3));
        Check.due("1 has heard of 2", 2, x.word(0, 8, 5, 1));
        Check.due("quarrel: what a third has heard is none", 0, x.quarrel(0, 5));
        x.delay(1, 30);
        Check.due("quarrel: 1 has heard of neither yet", 0, x.quarrel(0, 5));
        CampYears y = Scenes.withCamps(1);
        Scenes.order(y, 0, "o0h0-23@0-399");
        Scenes.order(y, 0, "o4h0-23@0-399");
        Scenes.order(y, 1, "o1h1-23@0-399");
        y.delay(4, 1);
        Check.due("quarrel: nobody", 0, y.quarrel(0, 0));
        Check.due("quarrel: 4 has not heard of the last, 1 has", (1 << 24) - 2, y.quarrel(0, 1));
        CampYears z = Scenes.withCamps(1);
        Scenes.order(z, 0, "o0h0-1@0-399");
        Scenes.order(z, 1, "o4h0-0@0-399");
        z.delay(0, 30);
        Check.due("quarrel: 0 has heard of nothing", 0, z.quarrel(0, 29));
        Check.due("quarrel of 0 and 4 in hour 0", 1, z.quarrel(0, 30));
        Check.due("no quarrel any more", 0, z.quarrel(0, 31));
        Check.due("quarrel camp 1", CampYears.UNKNOWN, y.quarrel(1, 400));
        Check.due("quarrel camp -1", CampYears.UNKNOWN, y.quarrel(-1, 0));
        Check.due("quarrel day 400", CampYears.OUTSIDE, y.quarrel(0, 400));
        Check.due("quarrel day -1", CampYears.OUTSIDE, y.quarrel(0, -1));
    }
}
