/** Promises 1 to 7: a new object, camps, men and posts. */
public final class CampsTest {
    public static void main(String[] args) {
        newObject();
        camps();
        men();
        posts();
        refusalsOfPost();
        fullPosts();
        days();
        beds();
        over();
        Check.end();
    }

    private static void newObject() {
        CampYears x = new CampYears();
        for (int what = 0; what < 10; what++) {
            Check.due("new: many(" + what + ")", 0, x.many(what));
        }
        Check.due("new: trace", 0, x.trace());
        Check.due("new: fault", 0, x.fault());
        Check.due("new: camp 0", CampYears.UNKNOWN, x.over(0));
        Check.due("new: man 0", CampYears.UNKNOWN, x.day(0, 0));
        Check.due("new: post 0", CampYears.UNKNOWN, x.tell(0));
        Check.due("new: order 0", CampYears.UNKNOWN, x.ofOrder(0, 0));
        Check.due("new: work 0", CampYears.UNKNOWN, x.ofWork(0, 0));
        Check.due("new: stand 0", CampYears.UNKNOWN, x.live(0, 0));
        for (int k = 0; k < 4; k++) {
            Check.due("new: sheet " + k, 0, x.lose(k));
        }
        CampYears y = new CampYears();
        y.camp(1, 1, 1);
        Check.due("objects share nothing", 0, x.many(0));
    }

    private static void camps() {
        CampYears x = new CampYears();
        Check.due("camp x -1", CampYears.OUTSIDE, x.camp(-1, 0, 1));
        Check.due("camp x 41", CampYears.OUTSIDE, x.camp(41, 0, 1));
        Check.due("camp y -1", CampYears.OUTSIDE, x.camp(0, -1, 1));
        Check.due("camp y 41", CampYears.OUTSIDE, x.camp(0, 41, 1));
        Check.due("camp beds 0", CampYears.OUTSIDE, x.camp(0, 0, 0));
        Check.due("camp beds 10", CampYears.OUTSIDE, x.camp(0, 0, 10));
        Check.due("camp least", 0, x.camp(0, 0, 1));
        Check.due("camp most", 1, x.camp(40, 40, 9));
        for (int c = 2; c < 7; c++) {
            Check.due("camp " + c, c, x.camp(5, 5, 5));
        }
        Check.due("camp, an eighth one", CampYears.FULL, x.camp(5, 5, 5));
        Check.due("camp, outside ahead of full", CampYears.OUTSIDE, x.camp(5, 41, 5));
        Check.due("camps", 7, x.many(0));
    }

    private static void men() {
        CampYears x = new CampYears();
        for (int m = 0; m < 20; m++) {
            Check.due("man", m, x.man());
        }
        Check.due("man, one too many", CampYears.FULL, x.man());
        Check.due("men", 20, x.many(1));
    }

    private static void posts() {
        CampYears x = Scenes.withMen(2, 2);
        Check.due("post of one day", 0, x.post(0, 0, 0, 0, 0));
        Check.due("post to the last day", 1, x.post(2, 0, 1, 399, 399));
        Check.due("post between", 2, x.post(1, 0, 1, 1, 398));
        Check.due("post of another man", 3, x.post(1, 1, 1, 10, 20));
        Check.due("post that begins in it", CampYears.STATE, x.post(0, 1, 0, 20, 30));
        Check.due("post that ends in it", CampYears.STATE, x.post(0, 1, 0, 5, 10));
        Check.due("post inside of it", CampYears.STATE, x.post(0, 1, 0, 12, 13));
        Check.due("post around it", CampYears.STATE, x.post(0, 1, 0, 0, 399));
        Check.due("post ahead of it", 4, x.post(0, 1, 0, 5, 9));
        Check.due("post behind it", 5, x.post(0, 1, 0, 21, 21));
        Check.due("posts", 6, x.many(2));
    }

    private static void refusalsOfPost() {
        CampYears x = Scenes.withMen(1, 1);
        Check.due("post man -1", CampYears.UNKNOWN, x.post(0, -1, 0, 0, 1));
        Check.due("post man 1", CampYears.UNKNOWN, x.post(0, 1, 0, 0, 1));
        Check.due("post camp -1", CampYears.UNKNOWN, x.post(0, 0, -1, 0, 1));
        Check.due("post camp 1", CampYears.UNKNOWN, x.post(0, 0, 1, 0, 1));
        Check.due("post, unknown ahead of outside", CampYears.UNKNOWN, x.post(3, 0, 1, 5, 1));
        Check.due("post kind -1", CampYears.OUTSIDE, x.post(-1, 0, 0, 0, 1));
        Check.due("post kind 3", CampYears.OUTSIDE, x.post(3, 0, 0, 0, 1));
        Check.due("post from -1", CampYears.OUTSIDE, x.post(0, 0, 0, -1, 1));
        Check.due("post till 400", CampYears.OUTSIDE, x.post(0, 0, 0, 0, 400));
        Check.due("post till ahead of from", CampYears.OUTSIDE, x.post(0, 0, 0, 2, 1));
        Check.due("no post came of it", 0, x.many(2));
        x.post(0, 0, 0, 0, 9);
        Check.due("post, outside ahead of state", CampYears.OUTSIDE, x.post(3, 0, 0, 0, 9));
    }

    private static void fullPosts() {
        CampYears x = Scenes.withMen(1, 1);
        for (int p = 0; p < 30; p++) {
            Check.due("post " + p, p, x.post(0, 0, 0, 2 * p, 2 * p));
        }
        Check.due("post, state ahead of full", CampYears.STATE, x.post(0, 0, 0, 0, 1));
        Check.due("post, full", CampYears.FULL, x.post(0, 0, 0, 1, 1));
        Check.due("posts, full", 30, x.many(2));
        Check.due("the last post", 29, x.day(0, 58));
    }

    private static void days() {
        CampYears x = Scenes.withMen(2, 2);
        x.post(0, 0, 0, 3, 5);
        x.post(2, 0, 1, 6, 9);
        Check.due("day ahead", CampYears.NONE, x.day(0, 2));
        Check.due("day first", 0, x.day(0, 3));
        Check.due("day last", 0, x.day(0, 5));
        Check.due("day next post", 1, x.day(0, 6));
        Check.due("day behind", CampYears.NONE, x.day(0, 10));
        Check.due("day of another", CampYears.NONE, x.day(1, 3));
        Check.due("day man 2", CampYears.UNKNOWN, x.day(2, 400));
        Check.due("day man -1", CampYears.UNKNOWN, x.day(-1, 0));
        Check.due("day -1", CampYears.OUTSIDE, x.day(0, -1));
        Check.due("day 400", CampYears.OUTSIDE, x.day(0, 400));
    }

    private static void beds() {
        CampYears x = Scenes.withMen(2, 3);
        x.post(0, 0, 0, 0, 10);
        x.post(1, 1, 0, 10, 20);
        x.post(2, 2, 1, 10, 10);
        Check.due("beds of one", 1, x.beds(0, 9));
        Check.due("beds of two", 2, x.beds(0, 10));
        Check.due("beds of the other camp", 1, x.beds(1, 10));
        Check.due("beds of none", 0, x.beds(1, 11));
        Check.due("beds on the last day", 0, x.beds(0, 399));
        Check.due("beds camp 2", CampYears.UNKNOWN, x.beds(2, -1));
        Check.due("beds day -1", CampYears.OUTSIDE, x.beds(0, -1));
        Check.due("beds day 400", CampYears.OUTSIDE, x.beds(0, 400));
    }

    private static void over() {
        CampYears x = Scenes.withMen(2, 4);
        Check.due("over of none", CampYears.NONE, x.over(0));
        x.post(0, 0, 0, 0, 399);
        Check.due("over with as many as beds", CampYears.NONE, x.over(0));
        x.post(0, 1, 0, 399, 399);
        Check.due("over on the last day", 399, x.over(0));
        x.post(0, 2, 0, 50, 60);
        x.post(0, 3, 0, 40, 45);
        Check.due("over: the earlier day, though told later", 40, x.over(0));
        Check.due("over of the other camp", CampYears.NONE, x.over(1));
        Check.due("over camp 2", CampYears.UNKNOWN, x.over(2));
        Check.due("over camp -1", CampYears.UNKNOWN, x.over(-1));
    }
}
