import java.util.ArrayList;
import java.util.List;
import java.util.regex.Matcher;
import java.util.regex.Pattern;

/**
 * The document once more, said as literally and slowly as can be: days are walked one by one, calls
 * and moves are all tried, faults are what the machine really throws. Tests hold CampYears to it.
 */
final class PlainYears {
    static final int UNKNOWN = -1, OUTSIDE = -2, STATE = -3, FULL = -4, NONE = -9;
    static final long LOST = Long.MIN_VALUE;

    interface Rolled {
        int number();

        void leave(int body);

        default int rolled() {
            leave(4);
            return number();
        }
    }

    class Post implements Rolled {
        int number, man, camp, from, till;

        public int number() {
            return number;
        }

        public void leave(int body) {
            trace = trace * 31 + body;
        }

        int plainTelling() {
            leave(1);
            int days = 0;
            for (int d = from; d <= till; d++) {
                days++;
            }
            return days;
        }

        int telling() {
            return plainTelling();
        }

        int rate() {
            return rates[0];
        }
    }

    class Leader extends Post {
        int telling() {
            leave(2);
            return super.telling() + 8;
        }

        int rate() {
            return rates[1];
        }
    }

    class Chief extends Leader {
        int telling() {
            leave(3);
            return super.telling() + plainTelling();
        }

        public int rolled() {
            leave(5);
            return 66;
        }

        int rate() {
            return rates[2];
        }
    }

    record Order(int office, int h1, int h2, int d1, int d2, int out, int given) {
    }

    record Fine(int man, int day, int cents) {
    }

    record Stand(int kind, int slope, int n, int year) {
    }

    record Fire(int x, int y, int need, int spread) {
    }

    record Place(int x, int y, int reach, boolean water) {
    }

    static final class Camp {
        int x, y, beds, crew;
    }

    static final class Work {
        int camp, need, tools, hands, done, noTool, noDay, counted;
    }

    final List<Camp> camps = new ArrayList<>();
    int men;
    final List<Post> posts = new ArrayList<>();
    final List<Order> orders = new ArrayList<>();
    final int[] delays = new int[5];
    final int[] rates = {100, 120, 150};
    int homeA = 25, homeB = 30;
    final List<Fine> fines = new ArrayList<>();
    final List<Work> works = new ArrayList<>();
    int[] weather = {0};
    int weeks;
    final int[][] levels = {{1, 1}, {1, 1}, {1, 1}, {1, 1}, {1, 1}};
    final List<Stand> stands = new ArrayList<>();
    int[] table = new int[24];
    final List<Fire> fires = new ArrayList<>();
    final List<Place> places = new ArrayList<>();
    final Object[] sheets = new Object[4];
    int trace, fault;

    PlainYears() {
        java.util.Arrays.fill(table, 100);
    }

    static boolean out(int v, int a, int b) {
        return v < a || v > b;
    }

    // ---- 1

    int camp(int x, int y, int beds) {
        if (out(x, 0, 40) || out(y, 0, 40) || out(beds, 1, 9)) return OUTSIDE;
        if (camps.size() == 7) return FULL;
        Camp c = new Camp();
        c.x = x;
        c.y = y;
        c.beds = beds;
        camps.add(c);
        return camps.size() - 1;
    }

    int man() {
        return men == 20 ? FULL : men++;
    }

    int post(int kind, int man, int camp, int from, int till) {
        if (noMan(man) || noCamp(camp)) return UNKNOWN;
        if (out(kind, 0, 2) || noDays(from, till)) return OUTSIDE;
        for (int d = from; d <= till; d++) if (day(man, d) != NONE) return STATE;
        if (posts.size() == 30) return FULL;
        Post p = kind == 0 ? new Post() : kind == 1 ? new Leader() : new Chief();
        p.number = posts.size();
        p.man = man;
        p.camp = camp;
        p.from = from;
        p.till = till;
        posts.add(p);
        return p.number;
    }

    int day(int man, int day) {
        if (noMan(man)) return UNKNOWN;
        if (noDay(day)) return OUTSIDE;
        for (Post p : posts) if (p.man == man && p.from <= day && day <= p.till) return p.number;
        return NONE;
    }

    int beds(int camp, int day) {
        if (noCamp(camp)) return UNKNOWN;
        if (noDay(day)) return OUTSIDE;
        int n = 0;
        for (int m = 0; m < men; m++) {
            int p = day(m, day);
            if (p != NONE && posts.get(p).camp == camp) n++;
        }
        return n;
    }

    int over(int camp) {
        if (noCamp(camp)) return UNKNOWN;
        for (int d = 0; d <= 399; d++) if (beds(camp, d) > camps.get(camp).beds) return d;
        return NONE;
    }

    boolean noMan(int man) {
        return out(man, 0, men - 1);
    }

    boolean noCamp(int camp) {
        return out(camp, 0, camps.size() - 1);
    }

    static boolean noDay(int day) {
        return out(day, 0, 399);
    }

    static boolean noDays(int from, int till) {
        return noDay(from) || noDay(till) || till < from;
    }

    // ---- 2

    /** The codes from i on, or null with fault set: by what the machine throws. */
    int[] take(int sheet, int lane, int i, int n) {
        fault = 0;
        try {
            Object row = sheets[sheet];
            if (lane == 0) {
                byte[] a = (byte[]) row;
                byte[] t = new byte[a.length < 0 ? 0 : n];
                System.arraycopy(a, i, t, 0, n);
                int[] r = new int[n];
                for (int k = 0; k < n; k++) r[k] = t[k];
                return r;
            }
            if (lane == 1) {
                short[] a = (short[]) row;
                short[] t = new short[a.length < 0 ? 0 : n];
                System.arraycopy(a, i, t, 0, n);
                int[] r = new int[n];
                for (int k = 0; k < n; k++) r[k] = t[k];
                return r;
            }
            int[] a = (int[]) row;
            int[] t = new int[a.length < 0 ? 0 : n];
            System.arraycopy(a, i, t, 0, n);
            return t;
        } catch (NullPointerException e) {
            fault = 1;
        } catch (ClassCastException e) {
            fault = 2;
        } catch (IndexOutOfBoundsException e) {
            fault = 3;
        } catch (NegativeArraySizeException e) {
            fault = 4;
        }
        return null;
    }

    int at, wrongAt;

    /** The numbers of the text, or null with wrongAt set. */
    int[] parse(int[] codes) {
        StringBuilder b = new StringBuilder();
        for (int c : codes) b.append(c > 0 && c < 128 ? (char) c : '?');
        String s = b.toString();
        at = 0;
        wrongAt = -1;
        int[] r = new int[6];
        String[] steps = {"o", "\\d", "h", "\\d{1,2}", "-", "\\d{1,2}", "@", "\\d{1,3}", "-", "\\d{1,3}"};
        int[] most = {0, 4, 0, 23, 0, 23, 0, 399, 0, 399};
        for (int k = 0; k < steps.length; k++) {
            Matcher m = Pattern.compile(steps[k]).matcher(s).region(at, s.length());
            if (!m.lookingAt()) {
                wrongAt = at;
                return null;
            }
            if (k % 2 == 1) {
                r[k / 2] = Integer.parseInt(m.group());
                boolean second = k == 5 || k == 9;
                if (r[k / 2] > most[k] || second && r[k / 2] < r[k / 2 - 1]) {
                    wrongAt = at;
                    return null;
                }
            }
            at = m.end();
        }
        if (at == s.length()) return r;
        if (s.charAt(at) != '!') {
            wrongAt = at;
            return null;
        }
        String told = s.substring(at + 1);
        for (int k = 0; k < told.length() || k == 0; k++) {
            boolean good = k < told.length() && told.charAt(k) >= '0' && told.charAt(k) <= '9'
                    && told.charAt(k) - '0' < camps.size() && told.indexOf(told.charAt(k)) == k;
            if (!good) {
                wrongAt = at + 1 + k;
                return null;
            }
            r[5] += 1 << told.charAt(k) - '0';
        }
        return r;
    }

    int order(int day, int sheet, int lane, int i, int n) {
        fault = 0;
        if (out(sheet, 0, 3)) return UNKNOWN;
        if (noDay(day) || out(lane, 0, 2)) return OUTSIDE;
        int[] codes = take(sheet, lane, i, n);
        if (codes == null) return -10 - fault;
        int[] r = parse(codes);
        if (r == null) return -100 - wrongAt;
        if (orders.size() == 12) return FULL;
        orders.add(new Order(r[0], r[1], r[2], r[3], r[4], r[5], day));
        return orders.size() - 1;
    }

    int ofOrder(int o, int what) {
        if (out(o, 0, orders.size() - 1)) return UNKNOWN;
        if (out(what, 0, 6)) return OUTSIDE;
        Order r = orders.get(o);
        return new int[] {r.office, r.h1, r.h2, r.d1, r.d2, r.out, r.given}[what];
    }

    int delay(int office, int d) {
        if (out(office, 0, 4)) return UNKNOWN;
        if (out(d, 0, 30)) return OUTSIDE;
        int was = delays[office];
        delays[office] = d;
        return was;
    }

    int why(int camp, int hour, int day, int office) {
        if (noCamp(camp) || out(office, 0, 4)) return UNKNOWN;
        if (out(hour, 0, 23) || noDay(day)) return OUTSIDE;
        int by = NONE;
        for (int o = 0; o < orders.size(); o++) {
            Order r = orders.get(o);
            boolean heard = day >= r.given + delays[office];
            boolean tells = r.h1 <= hour && hour <= r.h2 && r.d1 <= day && day <= r.d2
                    && (r.out & 1 << camp) == 0;
            if (heard && tells) by = o;
        }
        return by;
    }

    int word(int camp, int hour, int day, int office) {
        int by = why(camp, hour, day, office);
        return by < 0 ? by : orders.get(by).office;
    }

    int quarrel(int camp, int day) {
        if (noCamp(camp)) return UNKNOWN;
        if (noDay(day)) return OUTSIDE;
        int set = 0;
        for (int h = 0; h < 24; h++) {
            int n = 0;
            for (int k = 0; k < 5; k++) if (word(camp, h, day, k) == k) n++;
            if (n > 1) set |= 1 << h;
        }
        return set;
    }

    // ---- 3

    int rate(int kind, int v) {
        if (out(kind, 0, 2) || out(v, 0, 999)) return OUTSIDE;
        int was = rates[kind];
        rates[kind] = v;
        return was;
    }

    int home(int a, int b) {
        if (out(b, 1, 100) || out(a, 0, b)) return OUTSIDE;
        if (a == homeA && b == homeB) return 0;
        homeA = a;
        homeB = b;
        return 1;
    }

    int fine(int man, int day, int cents) {
        if (noMan(man)) return UNKNOWN;
        if (noDay(day) || out(cents, 1, 9999)) return OUTSIDE;
        if (fines.size() == 30) return FULL;
        fines.add(new Fine(man, day, cents));
        return fines.size();
    }

    int pay(int man, int from, int till, int what) {
        if (noMan(man)) return UNKNOWN;
        if (noDays(from, till) || out(what, 0, 4)) return OUTSIDE;
        int earned = 0;
        for (int d = from; d <= till; d++) {
            int p = day(man, d);
            if (p != NONE) earned += posts.get(p).rate();
        }
        int sent = earned * homeA / homeB;
        int left = earned - sent, fined = 0, owed = 0;
        for (Fine f : fines) {
            if (f.man != man || f.day < from || f.day > till) continue;
            for (int c = 0; c < f.cents; c++) {
                if (left > 0) {
                    left--;
                    fined++;
                } else {
                    owed++;
                }
            }
        }
        return new int[] {earned, sent, fined, left, owed}[what];
    }

    // ---- 4

    int work(int camp, int need, int tools) {
        if (noCamp(camp)) return UNKNOWN;
        if (out(need, 1, 9999) || out(tools, 0, 20)) return OUTSIDE;
        if (works.size() == 8) return FULL;
        Work w = new Work();
        w.camp = camp;
        w.need = need;
        w.tools = tools;
        works.add(w);
        return works.size() - 1;
    }

    int hands(int w, int what, int n) {
        if (noWork(w)) return UNKNOWN;
        if (out(what, 0, 1) || out(n, 0, 20)) return OUTSIDE;
        Work k = works.get(w);
        int was = what == 0 ? k.hands : k.tools;
        if (what == 0) k.hands = n;
        else k.tools = n;
        return was;
    }

    boolean noWork(int w) {
        return out(w, 0, works.size() - 1);
    }

    int row(int what, int sheet, int lane, int i, int n) {
        fault = 0;
        if (out(sheet, 0, 3)) return UNKNOWN;
        if (out(what, 0, 1) || out(lane, 0, 2)) return OUTSIDE;
        int[] cells = take(sheet, lane, i, n);
        if (cells == null) return -10 - fault;
        if (what == 0 ? out(n, 1, 8) : n != 24) return OUTSIDE;
        for (int c : cells) if (out(c, 0, what == 0 ? 2 : 100)) return OUTSIDE;
        if (what == 0) weather = cells;
        else table = cells;
        return n;
    }

    int week() {
        int now = weather[weeks++ % weather.length], sum = 0;
        for (Work w : works) {
            if (w.done >= w.need) continue;
            int did = 0;
            for (int h = 0; h < w.hands; h++) {
                if (h >= w.tools) {
                    w.noTool += 4;
                } else {
                    int does = now == 0 ? 4 : now == 1 ? 2 : 0;
                    did += does;
                    w.noDay += 4 - does;
                }
            }
            while (w.done + did > w.need) did--;
            w.done += did;
            sum += did;
            while (did % 10 != 0) did++;
            w.counted += did;
        }
        return sum;
    }

    int ofWork(int w, int what) {
        if (noWork(w)) return UNKNOWN;
        if (out(what, 0, 5)) return OUTSIDE;
        Work k = works.get(w);
        return new int[] {k.camp, k.need, k.done, k.noTool, k.noDay, k.counted}[what];
    }

    int level(int k, int a, int b) {
        if (out(k, 0, 4) || out(a, 0, 99) || out(b, 1, 99)) return OUTSIDE;
        if (levels[k][0] == a && levels[k][1] == b) return 0;
        levels[k] = new int[] {a, b};
        return 1;
    }

    long told(int w, int k) {
        if (noWork(w) || out(k, -1, 4)) return LOST;
        if (k == -1) return works.get(w).counted;
        long v = told(w, k - 1) * levels[k][0];
        return v / levels[k][1] + (v % levels[k][1] == 0 ? 0 : 1);
    }

    int grew(int w) {
        if (noWork(w)) return UNKNOWN;
        int by = NONE;
        long most = 0;
        for (int k = 0; k < 5; k++) {
            long grown = told(w, k) - told(w, k - 1);
            if (grown > most) {
                most = grown;
                by = k;
            }
        }
        return by;
    }

    int stand(int kind, int slope, int n, int year) {
        if (out(kind, 0, 3) || out(slope, 0, 2) || out(n, 1, 99999) || out(year, 0, 60)) return OUTSIDE;
        if (stands.size() == 12) return FULL;
        stands.add(new Stand(kind, slope, n, year));
        return stands.size() - 1;
    }

    int live(int s, int year) {
        if (out(s, 0, stands.size() - 1)) return UNKNOWN;
        if (out(year, 0, 99)) return OUTSIDE;
        Stand t = stands.get(s);
        if (year < t.year) return 0;
        if (year == t.year) return t.n;
        return live(s, year - 1) * table[6 * t.kind + 2 * t.slope + (year == t.year + 1 ? 0 : 1)] / 100;
    }

    long forest(int kind, int year) {
        if (out(kind, 0, 4) || out(year, 0, 99)) return LOST;
        long sum = 0;
        for (int s = 0; s < stands.size(); s++) {
            if (kind == 4 || stands.get(s).kind == kind) sum += live(s, year);
        }
        return sum;
    }

    // ---- 5

    int fire(int x, int y, int need, int spread) {
        if (out(x, 0, 40) || out(y, 0, 40) || out(need, 1, 60) || out(spread, 1, 99)) return OUTSIDE;
        if (fires.size() == 3) return FULL;
        fires.add(new Fire(x, y, need, spread));
        return fires.size() - 1;
    }

    int crew(int camp, int n) {
        if (noCamp(camp)) return UNKNOWN;
        if (out(n, 0, 9)) return OUTSIDE;
        int was = camps.get(camp).crew;
        camps.get(camp).crew = n;
        return was;
    }

    static int far(Camp c, int x, int y) {
        return Math.abs(c.x - x) + Math.abs(c.y - y);
    }

    int[] rowOf(int call) {
        int[] row = new int[camps.size()];
        for (int c = row.length - 1; c >= 0; c--) {
            row[c] = call % (fires.size() + 1);
            call /= fires.size() + 1;
        }
        return row;
    }

    int calls() {
        return (int) Math.round(Math.pow(fires.size() + 1, camps.size()));
    }

    int lostBy(int[] row) {
        int sum = 0;
        for (int f = 0; f < fires.size(); f++) {
            Fire fire = fires.get(f);
            int hour = 24;
            for (int h = 23; h >= 0; h--) {
                int come = 0;
                for (int c = 0; c < row.length; c++) {
                    Camp camp = camps.get(c);
                    if (row[c] == f + 1 && (far(camp, fire.x, fire.y) + 7) / 8 <= h) come += camp.crew;
                }
                if (come >= fire.need) hour = h;
            }
            sum += fire.spread * hour;
        }
        return sum;
    }

    int lost(int call) {
        return call < 0 || call >= calls() ? OUTSIDE : lostBy(rowOf(call));
    }

    int goers(int[] row) {
        int sum = 0;
        for (int c = 0; c < row.length; c++) if (row[c] != 0) sum += camps.get(c).crew;
        return sum;
    }

    int call(int camp) {
        if (camp != -1 && camp != -2 && noCamp(camp)) return UNKNOWN;
        int[] best = null;
        int least = 0, fewest = 0;
        for (int k = 0; k < calls(); k++) {
            int[] row = rowOf(k);
            int lost = lostBy(row), go = goers(row);
            if (best == null || lost < least || lost == least && go < fewest) {
                best = row;
                least = lost;
                fewest = go;
            }
        }
        return camp == -1 ? least : camp == -2 ? fewest : best[camp];
    }

    // ---- 6

    int place(int x, int y, int reach, boolean water) {
        if (out(x, 0, 40) || out(y, 0, 40) || out(reach, 0, 999)) return OUTSIDE;
        if (places.size() == 8) return FULL;
        places.add(new Place(x, y, reach, water));
        return places.size() - 1;
    }

    long gainOf(int[] row) {
        long sum = 0;
        for (int c = 0; c < row.length; c++) {
            if (out(row[c], 0, places.size() - 1)) return LOST;
            Place p = places.get(row[c]);
            if (!p.water) return LOST;
            for (int d = 0; d < c; d++) if (row[c] == row[d]) return LOST;
            sum += p.reach - far(camps.get(c), p.x, p.y);
        }
        return sum;
    }

    int[] bestRow;
    long bestGain;

    void tryMoves(int[] row, int c) {
        if (c == row.length) {
            long g = gainOf(row);
            if (bestRow == null || g > bestGain) {
                bestRow = row.clone();
                bestGain = g;
            }
            return;
        }
        for (int p = 0; p < places.size(); p++) {
            row[c] = p;
            if (gainOf(java.util.Arrays.copyOf(row, c + 1)) != LOST) tryMoves(row, c + 1);
        }
    }

    void findMove() {
        bestRow = null;
        bestGain = LOST;
        tryMoves(new int[camps.size()], 0);
    }

    long move(int camp) {
        if (camp != -1 && noCamp(camp)) return LOST;
        findMove();
        if (camp == -1) return bestGain;
        return bestRow == null ? NONE : bestRow[camp];
    }

    long gain(int sheet, int lane, int i, int n) {
        fault = 0;
        if (out(sheet, 0, 3) || out(lane, 0, 2)) return LOST;
        int[] cells = take(sheet, lane, i, n);
        return cells == null || n != camps.size() ? LOST : gainOf(cells);
    }

    int go() {
        findMove();
        if (bestRow == null) return STATE;
        for (int c = 0; c < camps.size(); c++) {
            camps.get(c).x = places.get(bestRow[c]).x;
            camps.get(c).y = places.get(bestRow[c]).y;
        }
        return 1;
    }

    int spot(int camp, int what) {
        if (noCamp(camp)) return UNKNOWN;
        if (out(what, 0, 1)) return OUTSIDE;
        return what == 0 ? camps.get(camp).x : camps.get(camp).y;
    }

    // ---- sheets, parts

    int sheet(int k, int lane, int n) {
        fault = 0;
        if (out(k, 0, 3)) return UNKNOWN;
        if (out(lane, 0, 2) || n > 60) return OUTSIDE;
        try {
            sheets[k] = lane == 0 ? new byte[n] : lane == 1 ? new short[n] : new int[n];
        } catch (NegativeArraySizeException e) {
            fault = 4;
            return -14;
        }
        return 1;
    }

    int lose(int k) {
        if (out(k, 0, 3)) return UNKNOWN;
        int had = sheets[k] == null ? 0 : 1;
        sheets[k] = null;
        return had;
    }

    int put(int k, int i, int v) {
        fault = 0;
        if (out(k, 0, 3)) return UNKNOWN;
        try {
            if (sheets[k] instanceof byte[] a) a[i] = (byte) v;
            else if (sheets[k] instanceof short[] a) a[i] = (short) v;
            else ((int[]) sheets[k])[i] = v;
        } catch (NullPointerException e) {
            fault = 1;
        } catch (ArrayIndexOutOfBoundsException e) {
            fault = 3;
        }
        return fault == 0 ? 1 : -10 - fault;
    }

    long cell(int k, int i, int lane) {
        fault = 0;
        if (out(k, 0, 3) || out(lane, 0, 2)) return LOST;
        try {
            return lane == 0 ? ((byte[]) sheets[k])[i]
                    : lane == 1 ? ((short[]) sheets[k])[i] : ((int[]) sheets[k])[i];
        } catch (ClassCastException e) {
            fault = 2;
        } catch (NullPointerException e) {
            fault = 1;
        } catch (ArrayIndexOutOfBoundsException e) {
            fault = 3;
        }
        return LOST;
    }

    int tell(int p) {
        return out(p, 0, posts.size() - 1) ? UNKNOWN : posts.get(p).telling();
    }

    int roll(int p) {
        return out(p, 0, posts.size() - 1) ? UNKNOWN : posts.get(p).rolled();
    }

    int as(int p, int kind) {
        fault = 0;
        if (out(p, 0, posts.size() - 1)) return UNKNOWN;
        if (out(kind, 0, 2)) return OUTSIDE;
        try {
            Post post = posts.get(p);
            if (kind == 1) post = (Leader) post;
            if (kind == 2) post = (Chief) post;
            return 1;
        } catch (ClassCastException e) {
            fault = 2;
            return -12;
        }
    }

    int many(int what) {
        if (out(what, 0, 9)) return OUTSIDE;
        return new int[] {camps.size(), men, posts.size(), orders.size(), fines.size(), works.size(),
            weeks, stands.size(), fires.size(), places.size()}[what];
    }
}
