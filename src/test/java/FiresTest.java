/** Promises 29 to 32: fires, crews and calls. */
public final class FiresTest {
    public static void main(String[] args) {
        fires();
        crews();
        hours();
        together();
        callsByNumber();
        bestOfLeastLost();
        bestOfFewestHands();
        bestOfFirstRow();
        withoutFiresOrCamps();
        greatest();
        Check.end();
    }

    private static void fires() {
        CampYears x = new CampYears();
        Check.due("fire x -1", CampYears.OUTSIDE, x.fire(-1, 0, 1, 1));
        Check.due("fire x 41", CampYears.OUTSIDE, x.fire(41, 0, 1, 1));
        Check.due("fire y -1", CampYears.OUTSIDE, x.fire(0, -1, 1, 1));
        Check.due("fire y 41", CampYears.OUTSIDE, x.fire(0, 41, 1, 1));
        Check.due("fire need 0", CampYears.OUTSIDE, x.fire(0, 0, 0, 1));
        Check.due("fire need 61", CampYears.OUTSIDE, x.fire(0, 0, 61, 1));
        Check.due("fire spread 0", CampYears.OUTSIDE, x.fire(0, 0, 1, 0));
        Check.due("fire spread 100", CampYears.OUTSIDE, x.fire(0, 0, 1, 100));
        Check.due("fire least", 0, x.fire(0, 0, 1, 1));
        Check.due("fire most", 1, x.fire(40, 40, 60, 99));
        Check.due("fire", 2, x.fire(1, 1, 1, 1));
        Check.due("fire, full", CampYears.FULL, x.fire(1, 1, 1, 1));
        Check.due("fire, outside ahead of full", CampYears.OUTSIDE, x.fire(1, 1, 0, 1));
        Check.due("fires", 3, x.many(8));
    }

    private static void crews() {
        CampYears x = Scenes.withCamps(2);
        Check.due("crew at first", 0, x.crew(1, 9));
        Check.due("crew was", 9, x.crew(1, 0));
        Check.due("crew camp 2", CampYears.UNKNOWN, x.crew(2, 10));
        Check.due("crew camp -1", CampYears.UNKNOWN, x.crew(-1, 1));
        Check.due("crew 10", CampYears.OUTSIDE, x.crew(1, 10));
        Check.due("crew -1", CampYears.OUTSIDE, x.crew(1, -1));
        Check.due("crew as it was", 0, x.crew(1, 1));
        Check.due("crew of the other", 0, x.crew(0, 1));
    }

    private static void hours() {
        int[] far = {0, 1, 8, 9, 16, 17, 40};
        int[] hour = {0, 1, 1, 2, 2, 3, 5};
        for (int k = 0; k < far.length; k++) {
            CampYears x = new CampYears();
            x.camp(far[k], 0, 1);
            x.crew(0, 1);
            x.fire(0, 0, 1, 10);
            Check.due("lost from " + far[k], 10 * hour[k], x.lost(1));
        }
        CampYears x = new CampYears();
        x.camp(0, 40, 1);
        x.crew(0, 9);
        x.fire(40, 0, 9, 99);
        Check.due("lost from the farthest spot", 990, x.lost(1));
        Check.due("lost if it stays", 99 * 24, x.lost(0));
        x.crew(0, 8);
        Check.due("lost by too few hands", 99 * 24, x.lost(1));
    }

    private static void together() {
        CampYears x = new CampYears();
        x.camp(20, 0, 1);
        x.camp(8, 0, 1);
        x.camp(0, 16, 1);
        x.crew(0, 2);
        x.crew(1, 3);
        x.crew(2, 4);
        x.fire(0, 0, 5, 10);
        Check.due("all three: the second to come is enough", 20, x.lost(7));
        Check.due("0 and 1: the last to come", 30, x.lost(6));
        Check.due("1 and 2", 20, x.lost(3));
        Check.due("0 and 2", 30, x.lost(5));
        Check.due("1 alone", 240, x.lost(2));
        int[] far = {40, 8, 32, 16, 24, 0};
        for (int need = 1; need <= 6; need++) {
            CampYears z = new CampYears();
            for (int c = 0; c < far.length; c++) {
                z.camp(far[c], 0, 1);
                z.crew(c, 1);
            }
            z.fire(0, 0, need, 10);
            Check.due("all go to a need of " + need, 10 * (need - 1), z.lost(63));
            Check.due("best for a need of " + need, 10 * (need - 1), z.call(-1));
        }
    }

    private static void callsByNumber() {
        CampYears x = Scenes.withCamps(2);
        x.crew(0, 1);
        x.crew(1, 2);
        x.fire(0, 0, 1, 1);
        x.fire(1, 0, 2, 10);
        Check.due("none goes", 24 + 240, x.lost(0));
        Check.due("1 to fire 0", 1 + 240, x.lost(1));
        Check.due("1 to fire 1", 24, x.lost(2));
        Check.due("0 to fire 0", 240, x.lost(3));
        Check.due("0 to fire 0, 1 to fire 1", 0, x.lost(5));
        Check.due("0 to fire 1", 24 + 240, x.lost(6));
        Check.due("both to fire 1", 24, x.lost(8));
        Check.due("call 9", CampYears.OUTSIDE, x.lost(9));
        Check.due("call -1", CampYears.OUTSIDE, x.lost(-1));
        Check.due("call far away", CampYears.OUTSIDE, x.lost(Integer.MAX_VALUE));
        Check.due("call far below", CampYears.OUTSIDE, x.lost(Integer.MIN_VALUE));
    }

    private static void best(CampYears x, int lost, int hands, int... row) {
        Check.due("best: lost", lost, x.call(-1));
        Check.due("best: hands", hands, x.call(-2));
        int call = 0;
        for (int c = 0; c < row.length; c++) {
            Check.due("best: camp " + c, row[c], x.call(c));
            call = call * (x.many(8) + 1) + row[c];
        }
        Check.due("lost by the best call", lost, x.lost(call));
        Check.due("best: camp " + row.length, CampYears.UNKNOWN, x.call(row.length));
        Check.due("best: camp -3", CampYears.UNKNOWN, x.call(-3));
    }

    private static void bestOfLeastLost() {
        CampYears x = Scenes.withCamps(2);
        x.crew(0, 5);
        x.crew(1, 5);
        x.fire(0, 0, 5, 1);
        x.fire(40, 40, 5, 2);
        best(x, 20, 10, 1, 2);
        x.fire(0, 8, 5, 99);
        best(x, 24 + 20 + 99, 10, 3, 2);
    }

    private static void bestOfFewestHands() {
        CampYears x = Scenes.withCamps(4);
        x.crew(0, 9);
        x.crew(1, 3);
        x.crew(2, 2);
        x.crew(3, 2);
        x.fire(40, 0, 4, 7);
        best(x, 35, 4, 0, 0, 1, 1);
        x.crew(3, 1);
        best(x, 35, 4, 0, 1, 0, 1);
        x.fire(40, 0, 60, 99);
        best(x, 35 + 99 * 24, 4, 0, 1, 0, 1);
    }

    private static void bestOfFirstRow() {
        CampYears x = Scenes.withCamps(3);
        x.crew(0, 4);
        x.crew(1, 4);
        x.crew(2, 4);
        x.fire(40, 0, 4, 7);
        best(x, 35, 4, 0, 0, 1);
        x.fire(40, 0, 4, 7);
        best(x, 70, 8, 0, 1, 2);
        x.crew(0, 0);
        best(x, 70, 8, 0, 1, 2);
    }

    private static void withoutFiresOrCamps() {
        CampYears x = new CampYears();
        best(x, 0, 0);
        x.fire(0, 0, 1, 5);
        x.fire(0, 0, 1, 7);
        best(x, 12 * 24, 0);
        Check.due("call 1 with no camp", CampYears.OUTSIDE, x.lost(1));
        CampYears y = Scenes.withCamps(7);
        y.crew(3, 9);
        best(y, 0, 0, 0, 0, 0, 0, 0, 0, 0);
        Check.due("call 1 with no fire", CampYears.OUTSIDE, y.lost(1));
    }

    private static void greatest() {
        CampYears x = new CampYears();
        for (int c = 0; c < 7; c++) {
            x.camp(0, 0, 1);
            x.crew(c, 9);
        }
        x.fire(40, 40, 60, 99);
        best(x, 990, 63, 1, 1, 1, 1, 1, 1, 1);
        x.fire(40, 40, 60, 99);
        x.fire(40, 40, 60, 99);
        best(x, 990 + 2 * 99 * 24, 63, 1, 1, 1, 1, 1, 1, 1);
        Check.due("the last call", 990 + 2 * 99 * 24, x.lost(16383));
        Check.due("behind the last call", CampYears.OUTSIDE, x.lost(16384));
        x.crew(0, 0);
        best(x, 3 * 99 * 24, 0, 0, 0, 0, 0, 0, 0, 0);
    }
}
