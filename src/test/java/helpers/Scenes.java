/** Makes objects that tests start from, and writes texts and rows to sheets. */
final class Scenes {
    private Scenes() {
    }

    /** Camps at (0, 0), (1, 0) and so on, with one bed each. */
    static CampYears withCamps(int n) {
        CampYears years = new CampYears();
        for (int c = 0; c < n; c++) {
            years.camp(c, 0, 1);
        }
        return years;
    }

    static CampYears withMen(int camps, int men) {
        CampYears years = withCamps(camps);
        for (int m = 0; m < men; m++) {
            years.man();
        }
        return years;
    }

    static void write(CampYears years, int sheet, int lane, int... row) {
        years.sheet(sheet, lane, row.length);
        for (int i = 0; i < row.length; i++) {
            years.put(sheet, i, row[i]);
        }
    }

    /** Gives an order by a text that is written to sheet 3 for it. */
    static int order(CampYears years, int day, String text) {
        int[] codes = new int[text.length()];
        for (int i = 0; i < codes.length; i++) {
            codes[i] = text.charAt(i);
        }
        write(years, 3, 0, codes);
        return years.order(day, 3, 0, 0, codes.length);
    }
}
