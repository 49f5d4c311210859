/** Promises 38 to 41: sheets and their cells. */
public final class SheetsTest {
    public static void main(String[] args) {
        sheets();
        loses();
        puts();
        lanes();
        cells();
        Check.end();
    }

    private static void sheets() {
        CampYears x = new CampYears();
        due(x, CampYears.UNKNOWN, 0, x.sheet(-1, 3, -1), "sheet -1");
        due(x, CampYears.UNKNOWN, 0, x.sheet(4, 0, 1), "sheet 4");
        due(x, CampYears.OUTSIDE, 0, x.sheet(0, 3, -1), "lane 3 ahead of size");
        due(x, CampYears.OUTSIDE, 0, x.sheet(0, -1, 1), "lane -1");
        due(x, CampYears.OUTSIDE, 0, x.sheet(0, 0, 61), "sheet of 61");
        due(x, -14, 4, x.sheet(0, 0, -1), "sheet of -1");
        due(x, -14, 4, x.sheet(0, 0, Integer.MIN_VALUE), "sheet of far too few");
        due(x, CampYears.OUTSIDE, 0, x.sheet(0, 0, Integer.MAX_VALUE), "sheet of far too many");
        Check.due("none of these made one", 0, x.lose(0));
        due(x, 1, 0, x.sheet(0, 0, 0), "sheet of none");
        due(x, 1, 0, x.sheet(3, 2, 60), "sheet of 60");
        x.put(3, 59, 7);
        due(x, -14, 4, x.sheet(3, 2, -5), "a size that is refused");
        Check.due("keeps the row", 7, x.cell(3, 59, 2));
        due(x, 1, 0, x.sheet(3, 1, 60), "a new row");
        Check.due("is of zeros", 0, x.cell(3, 59, 1));
        due(x, 1, 0, x.sheet(3, 1, 59), "a shorter one");
        due(x, CampYears.LOST, 3, x.cell(3, 59, 1), "has no cell 59");
    }

    private static void due(CampYears x, long want, int fault, long got, String what) {
        Check.due(what, want, got);
        Check.due("fault() of " + what, fault, x.fault());
    }

    private static void loses() {
        CampYears x = new CampYears();
        Check.due("lose nothing", 0, x.lose(2));
        x.sheet(2, 0, 0);
        Check.due("lose an empty row", 1, x.lose(2));
        Check.due("lose it again", 0, x.lose(2));
        Check.due("lose 4", CampYears.UNKNOWN, x.lose(4));
        Check.due("lose -1", CampYears.UNKNOWN, x.lose(-1));
        due(x, -11, 1, x.put(2, 0, 1), "put into nothing");
        Check.due("lose names no fault", 0, x.lose(2));
        Check.due("so fault() stays", 1, x.fault());
    }

    private static void puts() {
        CampYears x = new CampYears();
        due(x, -11, 1, x.put(0, -1, 1), "null ahead of index");
        x.sheet(0, 0, 3);
        due(x, 1, 0, x.put(0, 2, 1), "put the last");
        due(x, -13, 3, x.put(0, 3, 1), "put behind the last");
        due(x, -13, 3, x.put(0, -1, 1), "put ahead of the first");
        due(x, -13, 3, x.put(0, Integer.MAX_VALUE, 1), "put far away");
        due(x, -13, 3, x.put(0, Integer.MIN_VALUE, 1), "put far ahead");
        due(x, CampYears.UNKNOWN, 0, x.put(4, 0, 1), "put to sheet 4");
        due(x, CampYears.UNKNOWN, 0, x.put(-1, 0, 1), "put to sheet -1");
        Check.due("the others stay", 0, x.cell(0, 1, 0));
        x.sheet(1, 0, 0);
        due(x, -13, 3, x.put(1, 0, 1), "put into an empty row");
    }

    private static void lanes() {
        int[] comes = {0, 127, 128, 255, 256, -128, -129, 32767, 32768, 65535, Integer.MAX_VALUE, Integer.MIN_VALUE};
        CampYears x = new CampYears();
        for (int lane = 0; lane < 3; lane++) {
            x.sheet(lane, lane, 1);
        }
        for (int v : comes) {
            for (int lane = 0; lane < 3; lane++) {
                x.put(lane, 0, v);
            }
            Check.due("a byte of " + v, (byte) v, x.cell(0, 0, 0));
            Check.due("a short of " + v, (short) v, x.cell(1, 0, 1));
            Check.due("an int of " + v, v, x.cell(2, 0, 2));
        }
    }

    private static void cells() {
        CampYears x = new CampYears();
        x.sheet(0, 1, 2);
        x.put(0, 1, 77);
        due(x, 77, 0, x.cell(0, 1, 1), "cell");
        due(x, CampYears.LOST, 0, x.cell(4, 9, 3), "cell of sheet 4");
        due(x, CampYears.LOST, 0, x.cell(-1, 0, 0), "cell of sheet -1");
        due(x, CampYears.LOST, 0, x.cell(0, 9, 3), "cell of lane 3");
        due(x, CampYears.LOST, 0, x.cell(0, 9, -1), "cell of lane -1");
        due(x, CampYears.LOST, 2, x.cell(0, 9, 0), "cast ahead of index");
        due(x, CampYears.LOST, 2, x.cell(0, 0, 2), "cast");
        due(x, CampYears.LOST, 3, x.cell(0, 2, 1), "cell behind the last");
        due(x, CampYears.LOST, 3, x.cell(0, -1, 1), "cell ahead of the first");
        due(x, CampYears.LOST, 1, x.cell(1, 9, 1), "cell of nothing is no cast");
        due(x, CampYears.LOST, 0, x.cell(4, 0, 0), "cell of sheet 4 behind a fault");
        x.lose(0);
        due(x, CampYears.LOST, 1, x.cell(0, 1, 2), "cell of what was lost");
        due(x, CampYears.LOST, 0, x.cell(0, 1, 3), "cell of lane 3 behind a fault");
    }
}
