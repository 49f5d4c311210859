import java.util.Arrays;

/**
 * Camps over their years: men on posts, orders of offices, pay, works and trees, calls to fires,
 * moves to better places. Every call answers a number; what is refused or faulty is answered by a
 * number too, so that no call ever throws.
 */
public final class CampYears {
    public static final int UNKNOWN = -1, OUTSIDE = -2, STATE = -3, FULL = -4, NONE = -9;
    public static final long LOST = Long.MIN_VALUE;

    private static final int NO_FAULT = 0, NULL = 1, CAST = 2, INDEX = 3, SIZE = 4;
    private static final int BELOW_FAULTS = -10;
    private static final int BELOW_TEXTS = -100;

    private static final int MOST_CAMPS = 7;
    private static final int MOST_MEN = 20;
    private static final int MOST_POSTS = 30;
    private static final int MOST_ORDERS = 12;
    private static final int OFFICES = 5;
    private static final int SHEETS = 4;

    private static final int LAST_DAY = 399;
    private static final int LAST_HOUR = 23;
    private static final int LAST_YEAR = 99;
    private static final int LAST_SPOT = 40;

    private static final int LEADER = 1, CHIEF = 2;
    private static final int BYTES = 0, SHORTS = 1, INTS = 2;

    private final Camps camps = new Camps();
    private int menCount;
    private final Post[] posts = new Post[MOST_POSTS];
    private int postCount;
    private int traced;

    private final int[] delays = new int[OFFICES];
    private final Order[] orders = new Order[MOST_ORDERS];
    private int orderCount;

    private final Payroll payroll = new Payroll();
    private final Works works = new Works();
    private final Trees trees = new Trees();
    private final Fires fires = new Fires();
    private final Places places = new Places();

    private final Sheet[] sheets = new Sheet[SHEETS];
    private int latestFault;

    public CampYears() {
        for (int k = 0; k < SHEETS; k++) {
            sheets[k] = new Sheet();
        }
    }

    // ---- 1 camps, posts

    public int camp(int x, int y, int beds) {
        if (!isSpot(x, y) || !isWithin(beds, 1, 9)) {
            return OUTSIDE;
        }
        return camps.add(x, y, beds);
    }

    public int man() {
        if (menCount >= MOST_MEN) {
            return FULL;
        }
        menCount++;
        return menCount - 1;
    }

    public int post(int kind, int man, int camp, int from, int till) {
        if (!isMan(man) || !camps.has(camp)) {
            return UNKNOWN;
        }
        if (!isKind(kind) || !areDays(from, till)) {
            return OUTSIDE;
        }
        if (daysOnPosts(man, from, till) > 0) {
            return STATE;
        }
        if (postCount >= MOST_POSTS) {
            return FULL;
        }
        posts[postCount] = new Post(kind, man, camp, from, till);
        postCount++;
        return postCount - 1;
    }

    public int day(int man, int day) {
        if (!isMan(man)) {
            return UNKNOWN;
        }
        if (!isDay(day)) {
            return OUTSIDE;
        }
        for (int p = 0; p < MOST_POSTS; p++) {
            Post post = posts[p];
            if (post != null && post.man == man && post.holdsOn(day)) {
                return p;
            }
        }
        return NONE;
    }

    public int beds(int camp, int day) {
        if (!camps.has(camp)) {
            return UNKNOWN;
        }
        if (!isDay(day)) {
            return OUTSIDE;
        }
        return menAt(camp, day);
    }

    public int over(int camp) {
        if (!camps.has(camp)) {
            return UNKNOWN;
        }
        // A camp fills up only on days on which a post begins: no other day can be the first.
        int first = NONE;
        for (Post post : posts) {
            if (post != null && post.camp == camp && (first == NONE || post.from < first)
                    && menAt(camp, post.from) > camps.beds[camp]) {
                first = post.from;
            }
        }
        return first;
    }

    // ---- 2 orders

    public int order(int day, int sheet, int lane, int i, int n) {
        latestFault = NO_FAULT;
        Sheet cells = sheetAt(sheet);
        if (cells == null) {
            return UNKNOWN;
        }
        if (!isDay(day) || !isLane(lane)) {
            return OUTSIDE;
        }
        int fault = noteFault(cells.faultOf(lane, i, n));
        if (fault != NO_FAULT) {
            return fault;
        }
        OrderReader text = new OrderReader(cells, i, n, camps.count);
        text.readAll();
        if (text.isFaulty()) {
            return BELOW_TEXTS - text.firstFault;
        }
        if (orderCount >= MOST_ORDERS) {
            return FULL;
        }
        orders[orderCount] = new Order(text, day);
        orderCount++;
        return orderCount - 1;
    }

    public int ofOrder(int o, int what) {
        Order order = orderAt(o);
        return order == null ? UNKNOWN : order.fact(what);
    }

    public int delay(int office, int d) {
        if (!isOffice(office)) {
            return UNKNOWN;
        }
        if (!isWithin(d, 0, 30)) {
            return OUTSIDE;
        }
        int was = delays[office];
        delays[office] = d;
        return was;
    }

    public int word(int camp, int hour, int day, int office) {
        int number = why(camp, hour, day, office);
        Order order = orderAt(number);
        return order == null ? number : order.office;
    }

    public int why(int camp, int hour, int day, int office) {
        if (!camps.has(camp) || !isOffice(office)) {
            return UNKNOWN;
        }
        if (!isWithin(hour, 0, LAST_HOUR) || !isDay(day)) {
            return OUTSIDE;
        }
        return latestHeard(camp, hour, day, office);
    }

    public int quarrel(int camp, int day) {
        if (!camps.has(camp)) {
            return UNKNOWN;
        }
        if (!isDay(day)) {
            return OUTSIDE;
        }
        int hours = 0;
        for (int hour = 0; hour <= LAST_HOUR; hour++) {
            if (officesThatClaim(camp, hour, day) >= 2) {
                hours |= 1 << hour;
            }
        }
        return hours;
    }

    // ---- 3 pay

    public int rate(int kind, int v) {
        if (!isKind(kind) || !isWithin(v, 0, 999)) {
            return OUTSIDE;
        }
        int was = payroll.rates[kind];
        payroll.rates[kind] = v;
        return was;
    }

    public int home(int a, int b) {
        if (!isWithin(b, 1, 100) || !isWithin(a, 0, b)) {
            return OUTSIDE;
        }
        return payroll.changeHome(a, b) ? 1 : 0;
    }

    public int fine(int man, int day, int cents) {
        if (!isMan(man)) {
            return UNKNOWN;
        }
        if (!isDay(day) || !isWithin(cents, 1, 9999)) {
            return OUTSIDE;
        }
        return payroll.addFine(man, day, cents);
    }

    public int pay(int man, int from, int till, int what) {
        if (!isMan(man)) {
            return UNKNOWN;
        }
        if (!areDays(from, till)) {
            return OUTSIDE;
        }
        int earned = payroll.earnedOn(posts, man, from, till);
        int sent = payroll.sentHome(earned);
        int due = payroll.finesOf(man, from, till);
        int fined = Math.min(due, earned - sent);
        switch (what) {
            case 0: return earned;
            case 1: return sent;
            case 2: return fined;
            case 3: return earned - sent - fined;
            case 4: return due - fined;
            default: return OUTSIDE;
        }
    }

    // ---- 4 works, trees

    public int work(int camp, int need, int tools) {
        if (!camps.has(camp)) {
            return UNKNOWN;
        }
        if (!isWithin(need, 1, 9999) || !isWithin(tools, 0, 20)) {
            return OUTSIDE;
        }
        return works.add(camp, need, tools);
    }

    public int hands(int w, int what, int n) {
        Work work = works.at(w);
        if (work == null) {
            return UNKNOWN;
        }
        if (!isWithin(what, 0, 1) || !isWithin(n, 0, 20)) {
            return OUTSIDE;
        }
        return what == 0 ? work.changeHands(n) : work.changeTools(n);
    }

    public int row(int what, int sheet, int lane, int i, int n) {
        latestFault = NO_FAULT;
        Sheet cells = sheetAt(sheet);
        if (cells == null) {
            return UNKNOWN;
        }
        if (!isWithin(what, 0, 1) || !isLane(lane)) {
            return OUTSIDE;
        }
        int fault = noteFault(cells.faultOf(lane, i, n));
        if (fault != NO_FAULT) {
            return fault;
        }
        boolean taken = what == 0 ? works.takeWeather(cells, i, n) : trees.takeTable(cells, i, n);
        return taken ? n : OUTSIDE;
    }

    public int week() {
        return works.passWeek();
    }

    public int ofWork(int w, int what) {
        Work work = works.at(w);
        return work == null ? UNKNOWN : work.fact(what);
    }

    public int level(int k, int a, int b) {
        if (!isWithin(k, 0, Works.LEVELS - 1) || !isWithin(a, 0, 99) || !isWithin(b, 1, 99)) {
            return OUTSIDE;
        }
        return works.changeLevel(k, a, b) ? 1 : 0;
    }

    public long told(int w, int k) {
        Work work = works.at(w);
        if (work == null || !isWithin(k, -1, Works.LEVELS - 1)) {
            return LOST;
        }
        return works.toldBehind(work, k);
    }

    public int grew(int w) {
        Work work = works.at(w);
        return work == null ? UNKNOWN : works.greatestGrowth(work);
    }

    public int stand(int kind, int slope, int n, int year) {
        if (!isWithin(kind, 0, Trees.KINDS - 1) || !isWithin(slope, 0, Trees.SLOPES - 1)
                || !isWithin(n, 1, 99999) || !isWithin(year, 0, 60)) {
            return OUTSIDE;
        }
        return trees.add(kind, slope, n, year);
    }

    public int live(int s, int year) {
        if (!trees.has(s)) {
            return UNKNOWN;
        }
        return isYear(year) ? trees.liveIn(s, year) : OUTSIDE;
    }

    public long forest(int kind, int year) {
        if (!isWithin(kind, 0, Trees.KINDS) || !isYear(year)) {
            return LOST;
        }
        return trees.liveOfKind(kind, year);
    }

    // ---- 5 fires

    public int fire(int x, int y, int need, int spread) {
        if (!isSpot(x, y) || !isWithin(need, 1, 60) || !isWithin(spread, 1, 99)) {
            return OUTSIDE;
        }
        return fires.add(x, y, need, spread);
    }

    public int crew(int camp, int n) {
        if (!camps.has(camp)) {
            return UNKNOWN;
        }
        if (!isWithin(n, 0, 9)) {
            return OUTSIDE;
        }
        int was = camps.crew[camp];
        camps.crew[camp] = n;
        return was;
    }

    public int lost(int call) {
        return fires.isCall(camps, call) ? fires.lostByCall(camps, call) : OUTSIDE;
    }

    public int call(int camp) {
        if (camp == -1) {
            return Fires.lostIn(fires.bestCall(camps));
        }
        if (camp == -2) {
            return Fires.handsIn(fires.bestCall(camps));
        }
        return camps.has(camp) ? Fires.goalIn(fires.bestCall(camps), camp) : UNKNOWN;
    }

    // ---- 6 places

    public int place(int x, int y, int reach, boolean water) {
        if (!isSpot(x, y) || !isWithin(reach, 0, 999)) {
            return OUTSIDE;
        }
        return places.add(x, y, reach, water);
    }

    public long move(int camp) {
        if (camp != -1 && !camps.has(camp)) {
            return LOST;
        }
        boolean found = places.findBestMove(camps);
        if (camp == -1) {
            return found ? places.bestGain() : LOST;
        }
        return found ? places.chosen[camp] : NONE;
    }

    public long gain(int sheet, int lane, int i, int n) {
        latestFault = NO_FAULT;
        Sheet cells = sheetAt(sheet);
        if (cells == null || !isLane(lane)) {
            return LOST;
        }
        int fault = noteFault(cells.faultOf(lane, i, n));
        if (fault != NO_FAULT || n != camps.count) {
            return LOST;
        }
        return places.gainBy(camps, cells, i);
    }

    public int go() {
        if (!places.findBestMove(camps)) {
            return STATE;
        }
        places.moveCamps(camps);
        return 1;
    }

    public int spot(int camp, int what) {
        if (!camps.has(camp)) {
            return UNKNOWN;
        }
        switch (what) {
            case 0: return camps.x[camp];
            case 1: return camps.y[camp];
            default: return OUTSIDE;
        }
    }

    // ---- sheets, parts

    public int sheet(int k, int lane, int n) {
        latestFault = NO_FAULT;
        Sheet cells = sheetAt(k);
        if (cells == null) {
            return UNKNOWN;
        }
        if (!isLane(lane) || n > Sheet.MOST_CELLS) {
            return OUTSIDE;
        }
        if (n < 0) {
            return noteFault(SIZE);
        }
        cells.renew(lane, n);
        return 1;
    }

    public int lose(int k) {
        Sheet cells = sheetAt(k);
        if (cells == null) {
            return UNKNOWN;
        }
        return cells.drop() ? 1 : 0;
    }

    public int put(int k, int i, int v) {
        latestFault = NO_FAULT;
        Sheet cells = sheetAt(k);
        if (cells == null) {
            return UNKNOWN;
        }
        int fault = noteFault(cells.faultOf(cells.lane, i, 1));
        if (fault != NO_FAULT) {
            return fault;
        }
        cells.write(i, v);
        return 1;
    }

    public long cell(int k, int i, int lane) {
        latestFault = NO_FAULT;
        Sheet cells = sheetAt(k);
        if (cells == null || !isLane(lane)) {
            return LOST;
        }
        int fault = noteFault(cells.faultOf(lane, i, 1));
        return fault == NO_FAULT ? cells.read(i) : LOST;
    }

    public int tell(int p) {
        Post post = postAt(p);
        if (post == null) {
            return UNKNOWN;
        }
        switch (post.kind) {
            case CHIEF: return tellingOfChief(post);
            case LEADER: return tellingOfLeader(post);
            default: return tellingOfPost(post);
        }
    }

    public int roll(int p) {
        Post post = postAt(p);
        if (post == null) {
            return UNKNOWN;
        }
        if (post.kind == CHIEF) {
            leaveInTrace(5);
            return 66;
        }
        leaveInTrace(4);
        return p;
    }

    public int as(int p, int kind) {
        latestFault = NO_FAULT;
        Post post = postAt(p);
        if (post == null) {
            return UNKNOWN;
        }
        if (!isKind(kind)) {
            return OUTSIDE;
        }
        // Each kind is one of all the kinds of lesser number, too.
        return post.kind >= kind ? 1 : noteFault(CAST);
    }

    public int trace() {
        return traced;
    }

    public int fault() {
        return latestFault;
    }

    public int many(int what) {
        switch (what) {
            case 0: return camps.count;
            case 1: return menCount;
            case 2: return postCount;
            case 3: return orderCount;
            case 4: return payroll.fineCount;
            case 5: return works.count;
            case 6: return works.weeks;
            case 7: return trees.count;
            case 8: return fires.count;
            case 9: return places.count;
            default: return OUTSIDE;
        }
    }

    // ---- what the calls share

    private static boolean isWithin(int v, int least, int most) {
        return least <= v && v <= most;
    }

    private static boolean isSpot(int x, int y) {
        return isWithin(x, 0, LAST_SPOT) && isWithin(y, 0, LAST_SPOT);
    }

    private static boolean isDay(int day) {
        return isWithin(day, 0, LAST_DAY);
    }

    private static boolean areDays(int from, int till) {
        return isDay(from) && isDay(till) && from <= till;
    }

    private static boolean isYear(int year) {
        return isWithin(year, 0, LAST_YEAR);
    }

    private static boolean isKind(int kind) {
        return isWithin(kind, 0, CHIEF);
    }

    private static boolean isLane(int lane) {
        return isWithin(lane, BYTES, INTS);
    }

    private static boolean isOffice(int office) {
        return isWithin(office, 0, OFFICES - 1);
    }

    private boolean isMan(int man) {
        return isWithin(man, 0, menCount - 1);
    }

    /** Divisors that are not written out come here, where each is looked at before it divides. */
    private static long quotient(long n, long by) {
        return by == 0 ? 0 : n / by;
    }

    private static int remainder(int n, int by) {
        return by < 1 ? 0 : Math.floorMod(n, by);
    }

    private Post postAt(int p) {
        return isWithin(p, 0, MOST_POSTS - 1) ? posts[p] : null;
    }

    private Order orderAt(int o) {
        return isWithin(o, 0, MOST_ORDERS - 1) ? orders[o] : null;
    }

    private Sheet sheetAt(int k) {
        return isWithin(k, 0, SHEETS - 1) ? sheets[k] : null;
    }

    /** Keeps a fault for fault(), and gives what the call answers by it; NO_FAULT stays as it is. */
    private int noteFault(int fault) {
        latestFault = fault;
        return fault == NO_FAULT ? NO_FAULT : BELOW_FAULTS - fault;
    }

    private int daysOnPosts(int man, int from, int till) {
        int days = 0;
        for (Post post : posts) {
            if (post != null && post.man == man) {
                days += post.daysIn(from, till);
            }
        }
        return days;
    }

    private int menAt(int camp, int day) {
        int men = 0;
        for (Post post : posts) {
            if (post != null && post.camp == camp && post.holdsOn(day)) {
                men++;
            }
        }
        return men;
    }

    private int latestHeard(int camp, int hour, int day, int office) {
        for (int o = MOST_ORDERS - 1; o >= 0; o--) {
            Order order = orders[o];
            if (order != null && order.given + delays[office] <= day
                    && order.tellsOf(camp, hour, day)) {
                return o;
            }
        }
        return NONE;
    }

    /** How many offices have the word by what each has heard itself. */
    private int officesThatClaim(int camp, int hour, int day) {
        int claims = 0;
        for (int office = 0; office < OFFICES; office++) {
            Order order = orderAt(latestHeard(camp, hour, day, office));
            if (order != null && order.office == office) {
                claims++;
            }
        }
        return claims;
    }

    private void leaveInTrace(int body) {
        traced = 31 * traced + body;
    }

    private int tellingOfPost(Post post) {
        leaveInTrace(1);
        return post.daysIn(0, LAST_DAY);
    }

    private int tellingOfLeader(Post post) {
        leaveInTrace(2);
        return tellingOfPost(post) + 8;
    }

    private int tellingOfChief(Post post) {
        leaveInTrace(3);
        int asLeader = tellingOfLeader(post);
        return asLeader + tellingOfPost(post);
    }

    /** Where the camps are, with their beds and crews, by their numbers. */
    private static final class Camps {
        final int[] x = new int[MOST_CAMPS];
        final int[] y = new int[MOST_CAMPS];
        final int[] beds = new int[MOST_CAMPS];
        final int[] crew = new int[MOST_CAMPS];
        int count;

        boolean has(int c) {
            return isWithin(c, 0, count - 1);
        }

        int add(int atX, int atY, int bedCount) {
            if (count >= MOST_CAMPS) {
                return FULL;
            }
            x[count] = atX;
            y[count] = atY;
            beds[count] = bedCount;
            count++;
            return count - 1;
        }

        int far(int c, int toX, int toY) {
            return Math.abs(x[c] - toX) + Math.abs(y[c] - toY);
        }
    }

    /** A man's time at a camp. */
    private static final class Post {
        final int kind;
        final int man;
        final int camp;
        final int from;
        final int till;

        Post(int kind, int man, int camp, int from, int till) {
            this.kind = kind;
            this.man = man;
            this.camp = camp;
            this.from = from;
            this.till = till;
        }

        boolean holdsOn(int day) {
            return isWithin(day, from, till);
        }

        int daysIn(int first, int last) {
            return Math.max(0, Math.min(till, last) - Math.max(from, first) + 1);
        }
    }

    /** What an order tells, and the day on which it was given. */
    private static final class Order {
        final int office;
        final int fromHour;
        final int toHour;
        final int fromDay;
        final int toDay;
        final int leftOut;
        final int given;

        Order(OrderReader text, int given) {
            office = text.office;
            fromHour = text.fromHour;
            toHour = text.toHour;
            fromDay = text.fromDay;
            toDay = text.toDay;
            leftOut = text.leftOut;
            this.given = given;
        }

        boolean tellsOf(int camp, int hour, int day) {
            return isWithin(hour, fromHour, toHour) && isWithin(day, fromDay, toDay)
                    && (leftOut >> camp & 1) == 0;
        }

        int fact(int what) {
            switch (what) {
                case 0: return office;
                case 1: return fromHour;
                case 2: return toHour;
                case 3: return fromDay;
                case 4: return toDay;
                case 5: return leftOut;
                case 6: return given;
                default: return OUTSIDE;
            }
        }
    }

    /** Reads the text of an order; behind the first fault each further step does nothing. */
    private static final class OrderReader {
        private static final int NO_PLACE = -1;

        private final Sheet cells;
        private final int start;
        private final int length;
        private final int campCount;
        private int at;

        int firstFault = NO_PLACE;
        int office;
        int fromHour;
        int toHour;
        int fromDay;
        int toDay;
        int leftOut;

        OrderReader(Sheet cells, int start, int length, int campCount) {
            this.cells = cells;
            this.start = start;
            this.length = length;
            this.campCount = campCount;
        }

        boolean isFaulty() {
            return firstFault != NO_PLACE;
        }

        void readAll() {
            readSign('o');
            office = readNumber(1, 0, OFFICES - 1);
            readSign('h');
            fromHour = readNumber(2, 0, LAST_HOUR);
            readSign('-');
            toHour = readNumber(2, fromHour, LAST_HOUR);
            readSign('@');
            fromDay = readNumber(3, 0, LAST_DAY);
            readSign('-');
            toDay = readNumber(3, fromDay, LAST_DAY);
            if (at < length) {
                readLeftOut();
            }
        }

        private void readLeftOut() {
            readSign('!');
            // Of one camp more than there can be, one was told or is none: that round is the last.
            for (int told = 0; told <= MOST_CAMPS && !isFaulty() && (told == 0 || at < length); told++) {
                int place = at;
                int camp = readNumber(1, 0, campCount - 1);
                if (!isFaulty() && (leftOut >> camp & 1) != 0) {
                    firstFault = place;
                }
                leftOut |= 1 << camp;
            }
        }

        private void readSign(char sign) {
            if (isFaulty()) {
                return;
            }
            if (at < length && code() == sign) {
                at++;
            } else {
                firstFault = at;
            }
        }

        private int readNumber(int mostDigits, int least, int most) {
            if (isFaulty()) {
                return 0;
            }
            int first = at;
            int value = 0;
            while (at < length && at - first < mostDigits && isWithin(code(), '0', '9')) {
                value = 10 * value + code() - '0';
                at++;
            }
            if (at == first || !isWithin(value, least, most)) {
                firstFault = first;
            }
            return value;
        }

        private int code() {
            return cells.read(start + at);
        }
    }

    /** Rates, the share that goes home, and fines. */
    private static final class Payroll {
        private static final int MOST_FINES = 30;

        final int[] rates = {100, 120, 150};
        private int homeShare = 25;
        private int homeBy = 30;
        private final int[] fineMan = new int[MOST_FINES];
        private final int[] fineDay = new int[MOST_FINES];
        private final int[] fineCents = new int[MOST_FINES];
        int fineCount;

        boolean changeHome(int share, int by) {
            boolean changes = share != homeShare || by != homeBy;
            homeShare = share;
            homeBy = by;
            return changes;
        }

        int addFine(int man, int day, int cents) {
            if (fineCount >= MOST_FINES) {
                return FULL;
            }
            fineMan[fineCount] = man;
            fineDay[fineCount] = day;
            fineCents[fineCount] = cents;
            fineCount++;
            return fineCount;
        }

        int finesOf(int man, int from, int till) {
            int cents = 0;
            for (int f = 0; f < fineCount; f++) {
                if (fineMan[f] == man && isWithin(fineDay[f], from, till)) {
                    cents += fineCents[f];
                }
            }
            return cents;
        }

        int earnedOn(Post[] posts, int man, int from, int till) {
            int cents = 0;
            for (Post post : posts) {
                if (post != null && post.man == man) {
                    cents += post.daysIn(from, till) * rates[post.kind];
                }
            }
            return cents;
        }

        int sentHome(int earned) {
            return (int) quotient((long) earned * homeShare, homeBy);
        }
    }

    /** A work of a camp, with what was done and lost on it. */
    private static final class Work {
        private static final int FULL_WEEK = 4;

        private final int camp;
        private final int need;
        private int tools;
        private int hands;
        private int done;
        private int noTool;
        private int noDay;
        int counted;

        Work(int camp, int need, int tools) {
            this.camp = camp;
            this.need = need;
            this.tools = tools;
        }

        int changeHands(int n) {
            int was = hands;
            hands = n;
            return was;
        }

        int changeTools(int n) {
            int was = tools;
            tools = n;
            return was;
        }

        /** Works for a week of this weather: how much was done. */
        int passWeek(int weather) {
            if (done >= need) {
                return 0;
            }
            int able = Math.min(hands, tools);
            int eachDoes = FULL_WEEK - 2 * weather;
            int did = Math.min(able * eachDoes, need - done);
            done += did;
            noTool += (hands - able) * FULL_WEEK;
            noDay += able * (FULL_WEEK - eachDoes);
            counted += (did + 9) / 10 * 10;
            return did;
        }

        int fact(int what) {
            switch (what) {
                case 0: return camp;
                case 1: return need;
                case 2: return done;
                case 3: return noTool;
                case 4: return noDay;
                case 5: return counted;
                default: return OUTSIDE;
            }
        }
    }

    /** All works, the weather by weeks, and the levels that tell on what was counted. */
    private static final class Works {
        static final int LEVELS = 5;
        private static final int MOST_WORKS = 8;
        private static final int MOST_WEATHER = 8;
        private static final int SNOW = 2;

        private final Work[] works = new Work[MOST_WORKS];
        int count;
        private final int[] weather = new int[MOST_WEATHER];
        private int weatherCount = 1;
        int weeks;
        private final int[] tellsOn = {1, 1, 1, 1, 1};
        private final int[] tellsBy = {1, 1, 1, 1, 1};

        Work at(int w) {
            return isWithin(w, 0, MOST_WORKS - 1) ? works[w] : null;
        }

        int add(int camp, int need, int tools) {
            if (count >= MOST_WORKS) {
                return FULL;
            }
            works[count] = new Work(camp, need, tools);
            count++;
            return count - 1;
        }

        boolean takeWeather(Sheet cells, int i, int n) {
            if (!isWithin(n, 1, MOST_WEATHER) || !cells.areWithin(i, n, SNOW)) {
                return false;
            }
            cells.copyTo(weather, i, n);
            weatherCount = n;
            return true;
        }

        int passWeek() {
            int now = weather[remainder(weeks, weatherCount)];
            weeks++;
            int did = 0;
            for (Work work : works) {
                if (work != null) {
                    did += work.passWeek(now);
                }
            }
            return did;
        }

        boolean changeLevel(int k, int a, int b) {
            boolean changes = a != tellsOn[k] || b != tellsBy[k];
            tellsOn[k] = a;
            tellsBy[k] = b;
            return changes;
        }

        private long toldOnBy(int k, long comes) {
            // Made up where there is a rest: nothing that comes is below 0.
            return quotient(comes * tellsOn[k] + tellsBy[k] - 1, tellsBy[k]);
        }

        long toldBehind(Work work, int k) {
            long says = work.counted;
            for (int level = 0; level <= k; level++) {
                says = toldOnBy(level, says);
            }
            return says;
        }

        int greatestGrowth(Work work) {
            int greatest = NONE;
            long most = 0;
            long comes = work.counted;
            for (int level = 0; level < LEVELS; level++) {
                long says = toldOnBy(level, comes);
                if (says - comes > most) {
                    most = says - comes;
                    greatest = level;
                }
                comes = says;
            }
            return greatest;
        }
    }

    /** Stands of trees, and the table of the shares that live on. */
    private static final class Trees {
        static final int KINDS = 4;
        static final int SLOPES = 3;
        private static final int MOST_STANDS = 12;
        private static final int TABLE = 24;
        private static final int WHOLE = 100;

        private final int[] kind = new int[MOST_STANDS];
        private final int[] slope = new int[MOST_STANDS];
        private final int[] planted = new int[MOST_STANDS];
        private final int[] year = new int[MOST_STANDS];
        int count;
        private final int[] table = new int[TABLE];

        Trees() {
            Arrays.fill(table, WHOLE);
        }

        boolean has(int s) {
            return isWithin(s, 0, count - 1);
        }

        int add(int ofKind, int onSlope, int n, int inYear) {
            if (count >= MOST_STANDS) {
                return FULL;
            }
            kind[count] = ofKind;
            slope[count] = onSlope;
            planted[count] = n;
            year[count] = inYear;
            count++;
            return count - 1;
        }

        boolean takeTable(Sheet cells, int i, int n) {
            if (n != TABLE || !cells.areWithin(i, n, WHOLE)) {
                return false;
            }
            cells.copyTo(table, i, n);
            return true;
        }

        int liveIn(int s, int then) {
            if (then < year[s]) {
                return 0;
            }
            int trees = planted[s];
            int share = 6 * kind[s] + 2 * slope[s];
            for (int age = 1; age <= then - year[s]; age++) {
                trees = trees * table[age == 1 ? share : share + 1] / 100;
            }
            return trees;
        }

        long liveOfKind(int wanted, int then) {
            long trees = 0;
            for (int s = 0; s < count; s++) {
                if (wanted == KINDS || kind[s] == wanted) {
                    trees += liveIn(s, then);
                }
            }
            return trees;
        }
    }

    /**
     * Fires, and the calls to them. A call is held as one number that is the lesser the better the
     * call is: what is lost stands highest, then the hands that go, then the row by camps, two bits
     * a camp. Such numbers of the single fires add up to that of the whole call.
     */
    private static final class Fires {
        private static final int MOST_FIRES = 3;
        private static final int SETS = 1 << MOST_CAMPS;
        private static final int TOO_LATE = LAST_HOUR + 1;
        private static final int HANDS_AT = 2 * MOST_CAMPS;
        private static final int LOST_AT = HANDS_AT + 6;
        private static final long WORSE_THAN_ALL = 1L << 60;

        private final int[] x = new int[MOST_FIRES];
        private final int[] y = new int[MOST_FIRES];
        private final int[] need = new int[MOST_FIRES];
        private final int[] spread = new int[MOST_FIRES];
        int count;

        /** Of the fire that is looked at: the hour in which each camp comes, and camps by it. */
        private final int[] hours = new int[MOST_CAMPS];
        private final int[] queue = new int[MOST_CAMPS];
        /** By sets of camps: what it is worth to send them to that fire; to those so far. */
        private final long[] sent = new long[SETS];
        private final long[] best = new long[SETS];

        int add(int atX, int atY, int hands, int anHour) {
            if (count >= MOST_FIRES) {
                return FULL;
            }
            x[count] = atX;
            y[count] = atY;
            need[count] = hands;
            spread[count] = anHour;
            count++;
            return count - 1;
        }

        boolean isCall(Camps camps, int call) {
            int calls = 1;
            for (int c = 0; c < camps.count; c++) {
                calls *= count + 1;
            }
            return isWithin(call, 0, calls - 1);
        }

        int lostByCall(Camps camps, int call) {
            int lost = 0;
            for (int f = 0; f < count; f++) {
                lineUp(camps, f);
                lost += lostAt(camps, f, goersTo(camps, f, call));
            }
            return lost;
        }

        long bestCall(Camps camps) {
            int sets = 1 << camps.count;
            Arrays.fill(best, WORSE_THAN_ALL);
            best[0] = 0;
            for (int f = 0; f < count; f++) {
                lineUp(camps, f);
                for (int set = 0; set < sets; set++) {
                    sent[set] = worthOf(camps, f, set);
                }
                // Downwards, as each set is made of lesser ones as they were without this fire.
                for (int set = sets - 1; set >= 0; set--) {
                    best[set] = bestSplit(set);
                }
            }
            long least = WORSE_THAN_ALL;
            for (int set = 0; set < sets; set++) {
                least = Math.min(least, best[set]);
            }
            return least;
        }

        static int lostIn(long worth) {
            return (int) (worth >> LOST_AT);
        }

        static int handsIn(long worth) {
            return (int) (worth >> HANDS_AT) & 63;
        }

        static int goalIn(long worth, int camp) {
            return (int) (worth >> rowBit(camp)) & 3;
        }

        private static int rowBit(int camp) {
            return 2 * (MOST_CAMPS - 1 - camp);
        }

        /** Sets up hours and queue for a fire. */
        private void lineUp(Camps camps, int f) {
            for (int c = 0; c < camps.count; c++) {
                hours[c] = (camps.far(c, x[f], y[f]) + 7) / 8;
                int k = c;
                while (k > 0 && hours[queue[k - 1]] > hours[c]) {
                    queue[k] = queue[k - 1];
                    k--;
                }
                queue[k] = c;
            }
        }

        private int lostAt(Camps camps, int f, int set) {
            int come = 0;
            for (int k = 0; k < camps.count; k++) {
                int c = queue[k];
                if ((set >> c & 1) != 0) {
                    come += camps.crew[c];
                    if (come >= need[f]) {
                        return spread[f] * Math.min(hours[c], TOO_LATE);
                    }
                }
            }
            return spread[f] * TOO_LATE;
        }

        private int goersTo(Camps camps, int f, int call) {
            int set = 0;
            int rest = call;
            for (int c = camps.count - 1; c >= 0; c--) {
                if (remainder(rest, count + 1) == f + 1) {
                    set |= 1 << c;
                }
                rest = (int) quotient(rest, count + 1);
            }
            return set;
        }

        private long worthOf(Camps camps, int f, int set) {
            long worth = (long) lostAt(camps, f, set) << LOST_AT;
            for (int c = 0; c < camps.count; c++) {
                if ((set >> c & 1) != 0) {
                    worth += (camps.crew[c] << HANDS_AT) + ((f + 1) << rowBit(c));
                }
            }
            return worth;
        }

        /** The best of sending some of a set to this fire and the others to those before it. */
        private long bestSplit(int set) {
            long least = best[set] + sent[0];
            // going gets less with each round, as less one and cut to the set.
            for (int going = set; going > 0; going = (going - 1) & set) {
                least = Math.min(least, best[set - going] + sent[going]);
            }
            return least;
        }
    }

    /** Places, and the moves of camps to them. */
    private static final class Places {
        private static final int MOST_PLACES = 8;
        private static final int NO_MOVE = Integer.MIN_VALUE;

        private final int[] x = new int[MOST_PLACES];
        private final int[] y = new int[MOST_PLACES];
        private final int[] reach = new int[MOST_PLACES];
        private final boolean[] water = new boolean[MOST_PLACES];
        int count;

        /** By sets of places that the first camps have taken: the most gain of the other camps. */
        private final int[] most = new int[1 << MOST_PLACES];
        /** Of the best move: the place of each camp. */
        final int[] chosen = new int[MOST_CAMPS];

        int add(int atX, int atY, int reaches, boolean hasWater) {
            if (count >= MOST_PLACES) {
                return FULL;
            }
            x[count] = atX;
            y[count] = atY;
            reach[count] = reaches;
            water[count] = hasWater;
            count++;
            return count - 1;
        }

        /** Sets up bestGain and chosen, if there is a move at all. */
        boolean findBestMove(Camps camps) {
            for (int taken = (1 << count) - 1; taken >= 0; taken--) {
                most[taken] = mostBehind(camps, taken);
            }
            if (most[0] == NO_MOVE) {
                return false;
            }
            int taken = 0;
            for (int c = 0; c < camps.count; c++) {
                chosen[c] = firstOfMost(camps, c, taken);
                taken |= 1 << chosen[c];
            }
            return true;
        }

        int bestGain() {
            return most[0];
        }

        void moveCamps(Camps camps) {
            for (int c = 0; c < camps.count; c++) {
                camps.x[c] = x[chosen[c]];
                camps.y[c] = y[chosen[c]];
            }
        }

        /** The gain of a move that is told by cells; LOST, if they tell none. */
        long gainBy(Camps camps, Sheet cells, int i) {
            long gain = 0;
            int taken = 0;
            for (int c = 0; c < camps.count; c++) {
                int p = cells.read(i + c);
                if (!isWithin(p, 0, count - 1) || !isFree(p, taken)) {
                    return LOST;
                }
                gain += gainOf(camps, c, p);
                taken |= 1 << p;
            }
            return gain;
        }

        private boolean isFree(int p, int taken) {
            return water[p] && (taken >> p & 1) == 0;
        }

        private int gainOf(Camps camps, int c, int p) {
            return reach[p] - camps.far(c, x[p], y[p]);
        }

        private int mostBehind(Camps camps, int taken) {
            int c = Integer.bitCount(taken);
            if (c >= camps.count) {
                return 0;
            }
            int gain = NO_MOVE;
            for (int p = 0; p < count; p++) {
                gain = Math.max(gain, gainFrom(camps, c, p, taken));
            }
            return gain;
        }

        /** The most gain of this camp and those behind it, if it takes this place. */
        private int gainFrom(Camps camps, int c, int p, int taken) {
            if (!isFree(p, taken) || most[taken | 1 << p] == NO_MOVE) {
                return NO_MOVE;
            }
            return gainOf(camps, c, p) + most[taken | 1 << p];
        }

        private int firstOfMost(Camps camps, int c, int taken) {
            for (int p = 0; p < count; p++) {
                if (gainFrom(camps, c, p, taken) == most[taken]) {
                    return p;
                }
            }
            return 0;
        }
    }

    /** A row of numbers of a lane, or nothing. */
    private static final class Sheet {
        static final int MOST_CELLS = 60;
        private static final int NOTHING = -1;

        private final int[] cells = new int[MOST_CELLS];
        int lane = NOTHING;
        private int size;

        void renew(int newLane, int n) {
            Arrays.fill(cells, 0);
            lane = newLane;
            size = n;
        }

        boolean drop() {
            boolean had = lane != NOTHING;
            lane = NOTHING;
            size = 0;
            return had;
        }

        /** The fault of taking n cells from i on as a row of a lane; NO_FAULT, if they are there. */
        int faultOf(int wanted, int i, int n) {
            if (lane == NOTHING) {
                return NULL;
            }
            if (lane != wanted) {
                return CAST;
            }
            if (n < 0) {
                return SIZE;
            }
            return isWithin(i, 0, size) && n <= size - i ? NO_FAULT : INDEX;
        }

        int read(int i) {
            return isWithin(i, 0, MOST_CELLS - 1) ? cells[i] : 0;
        }

        void write(int i, int v) {
            if (isWithin(i, 0, MOST_CELLS - 1)) {
                cells[i] = cutToLane(v);
            }
        }

        private int cutToLane(int v) {
            switch (lane) {
                case BYTES: return (byte) v;
                case SHORTS: return (short) v;
                default: return v;
            }
        }

        boolean areWithin(int i, int n, int greatest) {
            for (int k = 0; k < n; k++) {
                if (!isWithin(read(i + k), 0, greatest)) {
                    return false;
                }
            }
            return true;
        }

        void copyTo(int[] row, int i, int n) {
            for (int k = 0; k < n && k < row.length; k++) {
                row[k] = read(i + k);
            }
        }
    }
}
