/** Promises 33 to 37: places, moves, and where camps are. */
public final class PlacesTest {
    public static void main(String[] args) {
        places();
        noMoves();
        bestOfMostGain();
        bestOfFirstRow();
        gainsBelowZero();
        gains();
        faultsOfGain();
        goes();
        sevenCamps();
        sevenGo();
        Check.end();
    }

    private static void places() {
        CampYears x = new CampYears();
        Check.due("place x -1", CampYears.OUTSIDE, x.place(-1, 0, 0, true));
        Check.due("place x 41", CampYears.OUTSIDE, x.place(41, 0, 0, true));
        Check.due("place y -1", CampYears.OUTSIDE, x.place(0, -1, 0, true));
        Check.due("place y 41", CampYears.OUTSIDE, x.place(0, 41, 0, true));
        Check.due("place reach -1", CampYears.OUTSIDE, x.place(0, 0, -1, true));
        Check.due("place reach 1000", CampYears.OUTSIDE, x.place(0, 0, 1000, false));
        Check.due("place least", 0, x.place(0, 0, 0, false));
        Check.due("place most", 1, x.place(40, 40, 999, true));
        for (int p = 2; p < 8; p++) {
            Check.due("place " + p, p, x.place(1, 1, 1, true));
        }
        Check.due("place, full", CampYears.FULL, x.place(1, 1, 1, true));
        Check.due("place, outside ahead of full", CampYears.OUTSIDE, x.place(1, 41, 1, true));
        Check.due("places", 8, x.many(9));
    }

    private static void best(CampYears x, long gain, int... row) {
        Check.due("best: gain", gain, x.move(-1));
        for (int c = 0; c < row.length; c++) {
            Check.due("best: camp " + c, row[c], x.move(c));
        }
        Check.due("best: camp " + row.length, CampYears.LOST, x.move(row.length));
        Check.due("best: camp -2", CampYears.LOST, x.move(-2));
    }

    private static void noMoves() {
        CampYears x = new CampYears();
        best(x, 0);
        Check.due("go of no camps", 1, x.go());
        x.camp(3, 4, 1);
        x.camp(3, 5, 1);
        best(x, CampYears.LOST, CampYears.NONE, CampYears.NONE);
        Check.due("go to nowhere", CampYears.STATE, x.go());
        x.place(1, 1, 9, true);
        x.place(1, 1, 9, false);
        best(x, CampYears.LOST, CampYears.NONE, CampYears.NONE);
        Check.due("go where water is too little", CampYears.STATE, x.go());
        Check.due("stays: x", 3, x.spot(0, 0));
        Check.due("stays: y", 5, x.spot(1, 1));
        x.place(1, 1, 9, true);
        best(x, 18 - 5 - 6, 0, 2);
    }

    private static void bestOfMostGain() {
        CampYears x = new CampYears();
        x.camp(0, 0, 1);
        x.camp(10, 0, 1);
        x.place(10, 10, 900, false);
        x.place(0, 0, 100, true);
        x.place(10, 1, 100, true);
        best(x, 199, 1, 2);
        x.place(40, 40, 300, true);
        best(x, 300 - 70 + 100, 1, 3);
        x.place(10, 0, 170, true);
        best(x, 300 - 80 + 170, 3, 4);
    }

    private static void bestOfFirstRow() {
        CampYears x = new CampYears();
        x.camp(5, 5, 1);
        x.camp(5, 5, 1);
        x.camp(5, 5, 1);
        x.place(0, 0, 50, false);
        for (int p = 1; p < 5; p++) {
            x.place(p, 5 - p, 50, true);
        }
        best(x, 135, 1, 2, 3);
    }

    private static void gainsBelowZero() {
        CampYears x = new CampYears();
        x.camp(0, 0, 1);
        x.place(9, 0, 0, true);
        best(x, -9, 0);
        x.place(40, 40, 0, true);
        best(x, -9, 0);
        x.camp(0, 0, 1);
        best(x, -89, 0, 1);
    }

    private static void gains() {
        CampYears x = new CampYears();
        x.camp(0, 0, 1);
        x.camp(10, 0, 1);
        x.place(0, 0, 100, true);
        x.place(10, 0, 200, true);
        x.place(0, 0, 999, false);
        Scenes.write(x, 0, 1, 7, 0, 1, 0, 0, 2, 3, -1);
        Check.due("gain of 0 1", 300, x.gain(0, 1, 1, 2));
        Check.due("gain of 1 0", 280, x.gain(0, 1, 2, 2));
        Check.due("gain of 0 0: unlike they must be", CampYears.LOST, x.gain(0, 1, 3, 2));
        Check.due("gain of 0 2: without water", CampYears.LOST, x.gain(0, 1, 4, 2));
        Check.due("gain of 2 3: no such place", CampYears.LOST, x.gain(0, 1, 5, 2));
        Check.due("gain of 3 -1", CampYears.LOST, x.gain(0, 1, 6, 2));
        Check.due("gain of 7 0", CampYears.LOST, x.gain(0, 1, 0, 2));
        Check.due("gain of one", CampYears.LOST, x.gain(0, 1, 1, 1));
        Check.due("gain of three", CampYears.LOST, x.gain(0, 1, 1, 3));
        Check.due("fault() behind these", 0, x.fault());
        Check.due("gain is no go", 0, x.spot(0, 0));
        Scenes.write(x, 1, 0, 1, 1);
        Check.due("gain of 1 1", CampYears.LOST, x.gain(1, 0, 0, 2));
        for (int p = 3; p < 8; p++) {
            x.place(0, 0, 1, true);
        }
        Scenes.write(x, 1, 0, 7, 8);
        Check.due("gain of 7 8", CampYears.LOST, x.gain(1, 0, 0, 2));
        CampYears y = new CampYears();
        y.sheet(2, 2, 0);
        Check.due("gain of no camps", 0, y.gain(2, 2, 0, 0));
    }

    private static void faultsOfGain() {
        CampYears x = Scenes.withCamps(1);
        x.place(0, 0, 5, true);
        x.sheet(0, 2, 3);
        fault(x, 0, x.gain(4, 2, 9, 1), "sheet 4");
        fault(x, 0, x.gain(0, 3, 9, 1), "lane 3");
        fault(x, 2, x.gain(0, 1, 9, -1), "cast");
        fault(x, 1, x.gain(1, 1, 9, -1), "null");
        fault(x, 4, x.gain(0, 2, 9, -1), "size");
        fault(x, 3, x.gain(0, 2, 3, 1), "index");
        fault(x, 3, x.gain(0, 2, 0, 4), "index ahead of outside");
        fault(x, 0, x.gain(0, 2, 0, 2), "outside");
        Check.due("gain", 5, x.gain(0, 2, 2, 1));
    }

    private static void fault(CampYears x, int fault, long got, String what) {
        Check.due("gain: " + what, CampYears.LOST, got);
        Check.due("gain, fault(): " + what, fault, x.fault());
    }

    private static void goes() {
        CampYears x = new CampYears();
        x.camp(1, 2, 1);
        x.camp(30, 40, 1);
        Check.due("spot x", 1, x.spot(0, 0));
        Check.due("spot y", 2, x.spot(0, 1));
        Check.due("spot camp 2", CampYears.UNKNOWN, x.spot(2, 2));
        Check.due("spot camp -1", CampYears.UNKNOWN, x.spot(-1, 0));
        Check.due("spot what 2", CampYears.OUTSIDE, x.spot(0, 2));
        Check.due("spot what -1", CampYears.OUTSIDE, x.spot(0, -1));
        x.place(3, 7, 10, true);
        x.place(31, 39, 10, true);
        best(x, 20 - 7 - 2, 0, 1);
        x.crew(0, 1);
        x.fire(3, 7, 1, 10);
        Check.due("lost ahead of go", 10, x.lost(2));
        Check.due("go", 1, x.go());
        Check.due("lost behind go", 0, x.lost(2));
        int[] spots = {3, 7, 31, 39};
        for (int k = 0; k < 4; k++) {
            Check.due("spot behind go", spots[k], x.spot(k / 2, k % 2));
        }
        best(x, 20, 0, 1);
        Check.due("go again", 1, x.go());
        best(x, 20, 0, 1);
    }

    private static void sevenCamps() {
        CampYears x = new CampYears();
        for (int c = 0; c < 7; c++) {
            x.camp(c, 0, 1);
        }
        for (int p = 0; p < 6; p++) {
            x.place(6 - p, 0, 10, true);
        }
        best(x, CampYears.LOST, -9, -9, -9, -9, -9, -9, -9);
        x.place(40, 40, 10, true);
        // As far in all as camp 0 to the far place and all others where they are; but first as a row.
        best(x, 70 - 6 - 74, 0, 5, 4, 3, 2, 1, 6);
        x.place(0, 0, 10, true);
        best(x, 70, 7, 5, 4, 3, 2, 1, 0);
        Check.due("seven go", 1, x.go());
        Check.due("seven went", 6, x.spot(6, 0));
    }

    private static void sevenGo() {
        CampYears x = Scenes.withCamps(7);
        for (int p = 0; p < 8; p++) {
            x.place(10 + p, 20 + p, 100, p != 3);
        }
        // All rows are as far together: the first one is the best.
        best(x, 700 - 7 * 30 - 2 * 25 + 21, 0, 1, 2, 4, 5, 6, 7);
        Check.due("seven go far", 1, x.go());
        int[] places = {0, 1, 2, 4, 5, 6, 7};
        for (int c = 0; c < 7; c++) {
            Check.due("x of camp " + c, 10 + places[c], x.spot(c, 0));
            Check.due("y of camp " + c, 20 + places[c], x.spot(c, 1));
        }
    }
}
