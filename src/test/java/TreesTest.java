/** Promises 20 and 26 to 28: stands of trees by the table. */
public final class TreesTest {
    public static void main(String[] args) {
        stands();
        tables();
        live();
        allOfTheTable();
        forests();
        Check.end();
    }

    private static void stands() {
        CampYears x = new CampYears();
        Check.due("stand kind -1", CampYears.OUTSIDE, x.stand(-1, 0, 1, 0));
        Check.due("stand kind 4", CampYears.OUTSIDE, x.stand(4, 0, 1, 0));
        Check.due("stand slope -1", CampYears.OUTSIDE, x.stand(0, -1, 1, 0));
        Check.due("stand slope 3", CampYears.OUTSIDE, x.stand(0, 3, 1, 0));
        Check.due("stand of 0", CampYears.OUTSIDE, x.stand(0, 0, 0, 0));
        Check.due("stand of 100000", CampYears.OUTSIDE, x.stand(0, 0, 100000, 0));
        Check.due("stand year -1", CampYears.OUTSIDE, x.stand(0, 0, 1, -1));
        Check.due("stand year 61", CampYears.OUTSIDE, x.stand(0, 0, 1, 61));
        Check.due("stand least", 0, x.stand(0, 0, 1, 0));
        Check.due("stand most", 1, x.stand(3, 2, 99999, 60));
        for (int s = 2; s < 12; s++) {
            Check.due("stand " + s, s, x.stand(1, 1, 1, 1));
        }
        Check.due("stand, full", CampYears.FULL, x.stand(1, 1, 1, 1));
        Check.due("stand, outside ahead of full", CampYears.OUTSIDE, x.stand(4, 1, 1, 1));
        Check.due("stands", 12, x.many(7));
    }

    private static int[] table(int first) {
        int[] table = new int[24];
        for (int k = 0; k < 24; k++) {
            table[k] = first + k;
        }
        return table;
    }

    private static void tables() {
        CampYears x = new CampYears();
        Scenes.write(x, 0, 1, table(77));
        Check.due("table to 100", 24, x.row(1, 0, 1, 0, 24));
        Check.due("row what 2 of 24", CampYears.OUTSIDE, x.row(2, 0, 1, 0, 24));
        Check.due("row what -1 of 24", CampYears.OUTSIDE, x.row(-1, 0, 1, 0, 24));
        x.put(0, 23, 101);
        Check.due("table with 101", CampYears.OUTSIDE, x.row(1, 0, 1, 0, 24));
        x.put(0, 23, -1);
        Check.due("table with -1", CampYears.OUTSIDE, x.row(1, 0, 1, 0, 24));
        x.put(0, 23, 0);
        Check.due("table with 0", 24, x.row(1, 0, 1, 0, 24));
        Check.due("table of 23", CampYears.OUTSIDE, x.row(1, 0, 1, 0, 23));
        x.sheet(0, 1, 25);
        Check.due("table of 25", CampYears.OUTSIDE, x.row(1, 0, 1, 0, 25));
        Check.due("table from 1 on", 24, x.row(1, 0, 1, 1, 24));
    }

    private static void live() {
        CampYears x = new CampYears();
        x.stand(0, 0, 1000, 10);
        Check.due("live ahead", 0, x.live(0, 9));
        Check.due("live at planting", 1000, x.live(0, 10));
        Check.due("live by the table at first", 1000, x.live(0, 99));
        int[] table = table(0);
        table[0] = 55;
        table[1] = 91;
        Scenes.write(x, 0, 0, table);
        x.row(1, 0, 0, 0, 24);
        Check.due("live, first year", 550, x.live(0, 11));
        Check.due("live, second year", 500, x.live(0, 12));
        Check.due("live, third year: cut each time", 455, x.live(0, 13));
        Check.due("live, fourth year", 414, x.live(0, 14));
        Check.due("live still none ahead", 0, x.live(0, 0));
        x.put(0, 0, 1);
        Check.due("the sheet is not the table", 550, x.live(0, 11));
        Check.due("live stand 1", CampYears.UNKNOWN, x.live(1, 100));
        Check.due("live stand -1", CampYears.UNKNOWN, x.live(-1, 0));
        Check.due("live year -1", CampYears.OUTSIDE, x.live(0, -1));
        Check.due("live year 100", CampYears.OUTSIDE, x.live(0, 100));
    }

    private static void allOfTheTable() {
        CampYears x = new CampYears();
        Scenes.write(x, 3, 0, table(40));
        x.row(1, 3, 0, 0, 24);
        for (int kind = 0; kind < 4; kind++) {
            for (int slope = 0; slope < 3; slope++) {
                int s = x.stand(kind, slope, 10000, 5);
                int first = 40 + 6 * kind + 2 * slope;
                Check.due("first year of " + s, first * 100, x.live(s, 6));
                Check.due("second year of " + s, first * (first + 1), x.live(s, 7));
                Check.due("third year of " + s, first * (first + 1) * (first + 1) / 100, x.live(s, 8));
            }
        }
    }

    private static void forests() {
        CampYears x = new CampYears();
        Check.due("forest of none", 0, x.forest(4, 50));
        x.stand(0, 0, 100, 0);
        x.stand(0, 2, 20, 10);
        x.stand(3, 1, 3, 0);
        Check.due("forest of kind 0 early", 100, x.forest(0, 9));
        Check.due("forest of kind 0", 120, x.forest(0, 10));
        Check.due("forest of kind 1", 0, x.forest(1, 10));
        Check.due("forest of kind 3", 3, x.forest(3, 99));
        Check.due("forest of all", 123, x.forest(4, 99));
        Check.due("forest kind 5", CampYears.LOST, x.forest(5, 0));
        Check.due("forest kind -1", CampYears.LOST, x.forest(-1, 0));
        Check.due("forest year -1", CampYears.LOST, x.forest(0, -1));
        Check.due("forest year 100", CampYears.LOST, x.forest(0, 100));
        for (int s = 3; s < 12; s++) {
            x.stand(2, 0, 99999, 0);
        }
        Check.due("forest of many", 9 * 99999, x.forest(2, 0));
    }
}
