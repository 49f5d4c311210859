import java.util.Map;
import java.util.Random;
import java.util.TreeMap;

/** Long runs of chance calls, each answered by CampYears and by the plain model alike. */
public final class PlainModelTest {
    private static final int RUNS = 2500;
    private static final int CALLS = 500;
    private static final int KINDS = 47;

    /** Calls that tell of one thing: a run of such a theme makes them often, so that they meet. */
    private static final int[][] THEMES = {
        {}, {1, 2, 3, 4, 5, 41, 42, 43}, {6, 8, 9, 10, 11}, {1, 2, 12, 13, 14, 15},
        {16, 17, 18, 19, 20, 21, 22, 23, 24}, {18, 25, 26, 27}, {28, 29, 30, 31}, {32, 33, 34, 35, 36},
        {37, 38, 39, 40, 44, 45, 46}};
    private static final int ORDERS = 2;

    /** Answers that chance comes to seldom: "it was so" is told by a 0, the others by more than 0. */
    private static final String[] MORE_THAN_0 = {"order", "over", "quarrel", "word", "why", "pay", "told", "grew",
        "live", "forest", "call", "lost", "move", "gain", "go", "tell", "roll"};
    private static final String[] SO_BEFORE = {"home", "level", "lose"};
    private static final int OFTEN_ENOUGH = 100;
    private static final Map<String, Integer> MET = new TreeMap<>();

    private final Random random;
    private final int theme;
    private final CampYears years = new CampYears();
    private final PlainYears plain = new PlainYears();
    /** How likely each kind of call is in this run, so that runs differ in what they fill up. */
    private final int[] weights = new int[KINDS];
    private int weightSum;
    private int bruteForce = 12;

    private PlainModelTest(long seed) {
        random = new Random(seed);
        theme = (int) (seed % THEMES.length);
        for (int k = 0; k < KINDS; k++) {
            weights[k] = random.nextInt(4) == 0 ? 1 + random.nextInt(12) : random.nextInt(2);
        }
        for (int k : THEMES[theme]) {
            weights[k] += 10;
        }
        for (int weight : weights) {
            weightSum += weight;
        }
    }

    public static void main(String[] args) {
        for (int run = 0; run < RUNS; run++) {
            new PlainModelTest(run).play(run);
        }
        for (String call : MORE_THAN_0) {
            wasMet(call + " > 0");
        }
        for (String call : SO_BEFORE) {
            wasMet(call + " = 0");
        }
        Check.end();
    }

    private static void wasMet(String answer) {
        Check.holds(answer + " was met often enough", MET.getOrDefault(answer, 0) >= OFTEN_ENOUGH);
    }

    private void play(int run) {
        prepare(run);
        for (int n = 0; n < CALLS; n++) {
            step(pick(), run);
            sameFault(run);
            same(run, "trace()", plain.trace, years.trace());
        }
        for (int what = 0; what < 10; what++) {
            same(run, "many", plain.many(what), years.many(what));
        }
    }

    /** Most runs start with some camps and men, as nothing much can be told without them. */
    private void prepare(int run) {
        for (int c = random.nextInt(8); c > 0; c--) {
            step(0, run);
        }
        for (int m = random.nextInt(6); m > 0; m--) {
            step(1, run);
        }
    }

    private int pick() {
        int at = random.nextInt(weightSum);
        int k = 0;
        while (at >= weights[k]) {
            at -= weights[k];
            k++;
        }
        return k;
    }

    private static void same(int run, String call, long want, long got) {
        Check.due("run " + run + ": " + call, want, got);
        if (want >= 0) {
            MET.merge(call.split(" ")[0] + (want == 0 ? " = 0" : " > 0"), 1, Integer::sum);
        }
    }

    private void sameFault(int run) {
        same(run, "fault()", plain.fault, years.fault());
    }

    /** Mostly a number from a to b; else one just beside them, or far away. */
    private int num(int a, int b) {
        switch (random.nextInt(40)) {
            case 0: return a - 1;
            case 1: return b + 1;
            case 2: return a;
            case 3: return b;
            case 4: return random.nextInt(8) == 0 ? Integer.MIN_VALUE + random.nextInt(2) : a;
            case 5: return random.nextInt(8) == 0 ? Integer.MAX_VALUE - random.nextInt(2) : b;
            default: return b < a ? a : a + random.nextInt(b - a + 1);
        }
    }

    private int one(int count) {
        return num(0, count - 1);
    }

    private int day() {
        return random.nextInt(theme == ORDERS ? 8 : 2) == 0 ? num(0, 399) : num(0, 30);
    }

    private int cells() {
        int n = num(-1, 62);
        return n > 1000 ? 1000 : n;
    }

    private String orderText() {
        StringBuilder text = new StringBuilder();
        text.append('o').append(num(0, 4)).append('h').append(hour(0)).append('-').append(hour(6));
        text.append('@').append(random.nextInt(20)).append('-').append(random.nextInt(500));
        if (random.nextInt(3) > 0) {
            text.append('!');
            for (int k = random.nextInt(4); k >= 0; k--) {
                text.append(random.nextInt(plain.camps.size() + 1));
            }
        }
        if (random.nextInt(3) == 0) {
            int at = random.nextInt(text.length() + 1);
            switch (random.nextInt(3)) {
                case 0: text.setLength(at); break;
                case 1: text.insert(at, "oh-@!0123456789x".charAt(random.nextInt(16))); break;
                default: text.deleteCharAt(Math.min(at, text.length() - 1)); break;
            }
        }
        return text.toString();
    }

    private String hour(int least) {
        int h = least + random.nextInt(20);
        return h < 10 && random.nextInt(4) == 0 ? "0" + h : "" + h;
    }

    /** Writes numbers to a sheet of both from some place on; gives that place. */
    private int write(int k, int lane, int[] row, int run) {
        int i = random.nextInt(3);
        int n = Math.min(60, i + row.length + random.nextInt(2));
        same(run, "sheet", plain.sheet(k, lane, n), years.sheet(k, lane, n));
        for (int at = 0; at < row.length; at++) {
            same(run, "put", plain.put(k, i + at, row[at]), years.put(k, i + at, row[at]));
        }
        return i;
    }

    private void giveOrder(int run) {
        String text = orderText();
        int[] row = new int[text.length()];
        for (int at = 0; at < row.length; at++) {
            row[at] = text.charAt(at);
        }
        int k = random.nextInt(4), lane = random.nextInt(3);
        int i = write(k, lane, row, run);
        int n = random.nextInt(9) == 0 ? row.length + num(-1, 1) : row.length;
        int day = day();
        int taken = random.nextInt(20) == 0 ? num(0, 2) : lane;
        same(run, "order " + text, plain.order(day, k, taken, i, Math.min(n, 1000)),
                years.order(day, k, taken, i, Math.min(n, 1000)));
    }

    private void takeRow(int run) {
        int what = num(0, 1), k = random.nextInt(4), lane = random.nextInt(3);
        int[] row = new int[what == 1 ? (random.nextInt(5) == 0 ? 23 + random.nextInt(3) : 24) : random.nextInt(10)];
        boolean right = random.nextInt(4) > 0;
        for (int at = 0; at < row.length; at++) {
            int most = what == 1 ? 100 : 2;
            row[at] = right ? random.nextInt(most + 1) : random.nextInt(most + 8) == 0 ? num(0, most) : random.nextInt(most + 1);
        }
        int i = write(k, lane, row, run);
        same(run, "row", plain.row(what, k, lane, i, row.length), years.row(what, k, lane, i, row.length));
    }

    private void askGain(int run) {
        int k = random.nextInt(4), lane = random.nextInt(3);
        int[] row = new int[plain.camps.size()];
        for (int at = 0; at < row.length; at++) {
            row[at] = random.nextInt(6) == 0 ? one(plain.places.size()) : (at + random.nextInt(2)) % 8;
        }
        int i = write(k, lane, row, run);
        same(run, "gain", plain.gain(k, lane, i, row.length), years.gain(k, lane, i, row.length));
    }

    private void step(int kind, int run) {
        if (kind < 16) {
            stepOfCampsToPay(kind, run);
        } else if (kind < 28) {
            stepOfWorksAndTrees(kind, run);
        } else if (kind < 37) {
            stepOfFiresAndPlaces(kind, run);
        } else {
            stepOfSheetsAndParts(kind, run);
        }
    }

    private void stepOfCampsToPay(int kind, int run) {
        int camp = one(plain.camps.size()), man = one(plain.men), day = day();
        int a, b, c;
        switch (kind) {
            case 0: a = num(0, 40); b = num(0, 40); c = random.nextBoolean() ? num(1, 2) : num(1, 9);
                same(run, "camp", plain.camp(a, b, c), years.camp(a, b, c)); break;
            case 1: same(run, "man", plain.man(), years.man()); break;
            case 2: a = num(0, 2); b = day(); c = random.nextInt(12) == 0 ? day() : Math.min(399, b + random.nextInt(40));
                same(run, "post", plain.post(a, man, camp, b, c), years.post(a, man, camp, b, c)); break;
            case 3: same(run, "day", plain.day(man, day), years.day(man, day)); break;
            case 4: same(run, "beds", plain.beds(camp, day), years.beds(camp, day)); break;
            case 5: same(run, "over", plain.over(camp), years.over(camp)); break;
            case 6: giveOrder(run); break;
            case 7: a = one(plain.orders.size()); b = num(0, 6);
                same(run, "ofOrder", plain.ofOrder(a, b), years.ofOrder(a, b)); break;
            case 8: a = num(0, 4); b = random.nextBoolean() ? num(0, 6) : num(0, 30);
                same(run, "delay", plain.delay(a, b), years.delay(a, b)); break;
            case 9: a = num(0, 23); b = num(0, 4);
                same(run, "word", plain.word(camp, a, day, b), years.word(camp, a, day, b)); break;
            case 10: a = num(0, 23); b = num(0, 4);
                same(run, "why", plain.why(camp, a, day, b), years.why(camp, a, day, b)); break;
            case 11: same(run, "quarrel", plain.quarrel(camp, day), years.quarrel(camp, day)); break;
            case 12: a = num(0, 2); b = num(0, 999);
                same(run, "rate", plain.rate(a, b), years.rate(a, b)); break;
            case 13: b = random.nextBoolean() ? num(1, 3) : num(1, 100); a = num(0, Math.max(0, Math.min(b, 100)));
                same(run, "home", plain.home(a, b), years.home(a, b)); break;
            case 14: a = num(1, 9999);
                same(run, "fine", plain.fine(man, day, a), years.fine(man, day, a)); break;
            default: a = day(); b = random.nextBoolean() ? day() : 399; c = num(0, 4);
                same(run, "pay", plain.pay(man, a, b, c), years.pay(man, a, b, c)); break;
        }
    }

    private void stepOfWorksAndTrees(int kind, int run) {
        int w = one(plain.works.size());
        int a, b, c, d;
        switch (kind) {
            case 16: a = one(plain.camps.size()); b = random.nextBoolean() ? num(1, 300) : num(1, 9999); c = num(0, 20);
                same(run, "work", plain.work(a, b, c), years.work(a, b, c)); break;
            case 17: a = num(0, 1); b = num(0, 20);
                same(run, "hands", plain.hands(w, a, b), years.hands(w, a, b)); break;
            case 18: takeRow(run); break;
            case 19: case 20: same(run, "week", plain.week(), years.week()); break;
            case 21: a = num(0, 5);
                same(run, "ofWork", plain.ofWork(w, a), years.ofWork(w, a)); break;
            case 22: a = num(0, 4); b = random.nextBoolean() ? num(0, 2) : num(0, 99); c = random.nextBoolean() ? num(1, 2) : num(1, 99);
                same(run, "level", plain.level(a, b, c), years.level(a, b, c)); break;
            case 23: a = num(-1, 4);
                same(run, "told", plain.told(w, a), years.told(w, a)); break;
            case 24: same(run, "grew", plain.grew(w), years.grew(w)); break;
            case 25: a = num(0, 3); b = num(0, 2); c = num(1, 99999); d = num(0, 60);
                same(run, "stand", plain.stand(a, b, c, d), years.stand(a, b, c, d)); break;
            case 26: a = one(plain.stands.size()); b = num(0, 99);
                same(run, "live", plain.live(a, b), years.live(a, b)); break;
            default: a = num(0, 4); b = num(0, 99);
                same(run, "forest", plain.forest(a, b), years.forest(a, b)); break;
        }
    }

    private void stepOfFiresAndPlaces(int kind, int run) {
        int camp = one(plain.camps.size());
        int a, b, c, d;
        boolean water;
        switch (kind) {
            case 28: a = num(0, 40); b = num(0, 40); c = random.nextBoolean() ? num(1, 15) : num(1, 60); d = num(1, 99);
                same(run, "fire", plain.fire(a, b, c, d), years.fire(a, b, c, d)); break;
            case 29: a = num(0, 9);
                same(run, "crew", plain.crew(camp, a), years.crew(camp, a)); break;
            case 30: a = num(0, plain.calls() - 1);
                same(run, "lost", plain.lost(a), years.lost(a)); break;
            case 31: a = random.nextInt(3) == 0 ? num(-3, -1) : camp;
                if (bruteForce-- > 0) {
                    same(run, "call", plain.call(a), years.call(a));
                }
                break;
            case 32: a = num(0, 40); b = num(0, 40); c = random.nextBoolean() ? num(0, 3) : num(0, 999);
                water = random.nextInt(8) > 0;
                same(run, "place", plain.place(a, b, c, water), years.place(a, b, c, water)); break;
            case 33: a = random.nextInt(3) == 0 ? num(-2, -1) : camp;
                if (bruteForce-- > 0) {
                    same(run, "move", plain.move(a), years.move(a));
                }
                break;
            case 34: askGain(run); break;
            case 35:
                if (bruteForce-- > 0) {
                    same(run, "go", plain.go(), years.go());
                }
                break;
            default: a = num(0, 1);
                same(run, "spot", plain.spot(camp, a), years.spot(camp, a)); break;
        }
    }

    private void stepOfSheetsAndParts(int kind, int run) {
        int k = num(0, 3), lane = num(0, 2), p = one(plain.posts.size());
        int a, b, c;
        switch (kind) {
            case 37: a = cells();
                same(run, "sheet", plain.sheet(k, lane, a), years.sheet(k, lane, a)); break;
            case 38: same(run, "lose", plain.lose(k), years.lose(k)); break;
            case 39: a = num(0, 60); b = random.nextInt();
                same(run, "put", plain.put(k, a, b), years.put(k, a, b)); break;
            case 40: a = num(0, 60);
                same(run, "cell", plain.cell(k, a, lane), years.cell(k, a, lane)); break;
            case 41: same(run, "tell", plain.tell(p), years.tell(p)); break;
            case 42: same(run, "roll", plain.roll(p), years.roll(p)); break;
            case 43: a = num(0, 2);
                same(run, "as", plain.as(p, a), years.as(p, a)); break;
            case 44: a = num(0, 9);
                same(run, "many", plain.many(a), years.many(a)); break;
            case 45: a = day(); b = cells(); c = cells();
                same(run, "order", plain.order(a, k, lane, b, c), years.order(a, k, lane, b, c));
                sameFault(run);
                same(run, "gain", plain.gain(k, lane, b, c), years.gain(k, lane, b, c)); break;
            default: a = num(0, 1); b = cells(); c = cells();
                same(run, "row", plain.row(a, k, lane, b, c), years.row(a, k, lane, b, c)); break;
        }
    }
}
