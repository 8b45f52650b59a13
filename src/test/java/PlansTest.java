/** Promises 24 to 27: plans, and count. */
public final class PlansTest {
    private static final int BAD = SpokenMenus.BAD;
    private static final int NO = SpokenMenus.NO;
    private static final int NONE = SpokenMenus.NONE;
    private static final int LOW = Integer.MIN_VALUE;
    private static final int HIGH = Integer.MAX_VALUE;
    private static final Due d = new Due();

    public static void main(String[] args) {
        wish();
        wrongPlans();
        plan();
        notTold();
        likePlans();
        planned();
        latestPlan();
        count();
        d.end();
    }

    private static void wish() {
        SpokenMenus x = new SpokenMenus();
        int[][] bad = {
            {-1, 1, 0}, {8, 1, 0}, {LOW, 1, 0}, {HIGH, 1, 0}, {0, 0, 0}, {0, 201, 0}, {0, HIGH, 0},
            {0, 1, -1}, {0, 1, 1001}, {0, 1, LOW},
        };
        for (int i = 0; i < bad.length; i++) {
            d.due("BAD wish " + i, x.wish(bad[i][0], bad[i][1], bad[i][2]), BAD);
        }
        d.due("BAD wishes change nothing", x.plan(1, 1, 2), 0);
        d.due("least wish", x.wish(0, 1, 0), 0);
        d.due("most wish", x.wish(7, 200, 1000), 0);
        d.due("a wish", x.wish(0, 6, 7), 0);
        d.due("its plan", x.plan(1, 1, 2), 42);
        d.due("told anew", x.wish(0, 2, 3), 0);
        d.due("its plan anew", x.plan(1, 1, 2), 6);
    }

    private static void wrongPlans() {
        SpokenMenus x = new SpokenMenus();
        int[][] bad = {
            {0, 1, 2}, {9, 1, 2}, {LOW, 1, 2}, {HIGH, 1, 2}, {1, 0, 2}, {1, 201, 2}, {1, HIGH, 2},
            {1, 1, 1}, {1, 1, 7}, {1, 1, LOW},
        };
        for (int i = 0; i < bad.length; i++) {
            d.due("BAD plan " + i, x.plan(bad[i][0], bad[i][1], bad[i][2]), BAD);
        }
        d.due("no plan of BAD ones", x.planned(1, 0), NO);
        d.due("least plan", x.plan(1, 1, 2), 0);
        d.due("most plan", x.plan(8, 200, 6), 0);
    }

    private static SpokenMenus fourWishes() {
        SpokenMenus x = new SpokenMenus();
        x.wish(0, 10, 1);
        x.wish(1, 10, 2);
        x.wish(2, 10, 3);
        x.wish(3, 10, 4);
        return x;
    }

    private static void plan() {
        SpokenMenus x = fourWishes();
        d.due("all in one menu", x.plan(4, 200, 4), 10 * (10 + 6 + 3 + 1));
        d.dueRow("its lines", Ask.planLines(x, 15), 8, 4, 2, 1);
        d.due("a broad one is the same", x.plan(4, 200, 6), 200);
        d.dueRow("its lines", Ask.planLines(x, 15), 8, 4, 2, 1);
        d.due("three lines: one is a group", x.plan(4, 50, 3), 10 * 10 + 10 * 6 + 50 * 3 + 10 * 3 + 10);
        d.dueRow("its lines", Ask.planLines(x, 15), 8, 4, 3);
        d.dueRow("the group's", Ask.planLines(x, 3), 2, 1);
        d.due("a short group ahead", x.plan(4, 5, 3), 5 * 10 + 10 * 6 + 10 * 2 + 10 * 4 + 10);
        d.dueRow("its lines", Ask.planLines(x, 15), 5, 8, 2);
        d.due("two of them", x.plan(2, 1, 2), 40);
        x.wish(0, 10, 100);
        x.wish(1, 200, 50);
        x.wish(2, 10, 100);
        d.due("two lines", x.plan(3, 3, 2), 3 * 250 + (10 * 150 + 200 * 50) + 10 * 100);
        d.dueRow("its lines, not 6 and 1", Ask.planLines(x, 7), 3, 4);
        d.dueRow("the group's", Ask.planLines(x, 3), 1, 2);
    }

    private static void notTold() {
        SpokenMenus x = new SpokenMenus();
        x.wish(2, 100, 10);
        d.due("callers of one", x.plan(3, 200, 3), 1000);
        x.wish(0, 200, 1);
        x.wish(1, 200, 1);
        d.due("ticks 1 of a wish that is not told", x.plan(4, 200, 6), 1200 + 200 * 2 + 200);
        x = new SpokenMenus();
        x.wish(1, 1, 5);
        d.due("a wish that is not told is not free ahead of one", x.plan(2, 200, 2), 5);
        d.dueRow("so it is last", Ask.planLines(x, 3), 2, 1);
    }

    private static void likePlans() {
        SpokenMenus x = new SpokenMenus();
        x.plan(3, 1, 2);
        d.dueRow("all are like", Ask.planLines(x, 7), 1, 6);
        d.dueRow("the group", Ask.planLines(x, 6), 2, 4);
        x.plan(3, 1, 3);
        d.dueRow("a group second is greater than one", Ask.planLines(x, 7), 1, 2, 4);
        x.wish(0, 5, 5);
        x.wish(1, 5, 5);
        x.wish(2, 5, 5);
        x.plan(3, 200, 3);
        d.dueRow("like wishes", Ask.planLines(x, 7), 1, 2, 4);
        x = new SpokenMenus();
        x.wish(0, 2, 1);
        x.wish(1, 4, 2);
        d.due("of like ones", x.plan(2, 1, 2), 2 * 3 + 4 * 2);
        d.dueRow("the lesser first", Ask.planLines(x, 3), 1, 2);
    }

    private static void planned() {
        SpokenMenus x = new SpokenMenus();
        d.due("no plan", x.planned(255, 0), NO);
        d.due("no plan, j", x.planned(255, 7), NO);
        d.due("BAD set ahead of NO", x.planned(0, 0), BAD);
        d.due("BAD set ahead of NO", x.planned(256, 0), BAD);
        d.due("BAD j ahead of NO", x.planned(1, -1), BAD);
        x.plan(3, 1, 2);
        for (int set : new int[] {0, -1, 8, 9, 255, 256, LOW, HIGH}) {
            d.due("set " + set, x.planned(set, 0), BAD);
        }
        d.due("j -1", x.planned(7, -1), BAD);
        d.due("j at the least", x.planned(7, LOW), BAD);
        d.due("no line 2", x.planned(7, 2), NONE);
        d.due("no line at the most", x.planned(7, HIGH), NONE);
        for (int set : new int[] {1, 2, 4}) {
            d.due("a set of one " + set, x.planned(set, 0), NONE);
        }
        d.dueRow("a set that the plan's menus do not have", Ask.planLines(x, 3), 1, 2);
        x.plan(1, 1, 2);
        d.due("a plan for one", x.planned(1, 0), 1);
        d.due("it has one line", x.planned(1, 1), NONE);
        d.due("no other wish", x.planned(2, 0), BAD);
        x.plan(8, 1, 6);
        d.due("a broad menu", Ask.planLines(x, 255).length > 1 ? 1 : 0, 1);
        d.due("no line 6", x.planned(255, 6), NONE);
    }

    private static void latestPlan() {
        SpokenMenus x = fourWishes();
        x.plan(4, 50, 3);
        x.wish(0, 1, 1000);
        d.dueRow("wishes told later do not change it", Ask.planLines(x, 15), 8, 4, 3);
        x.plan(4, 0, 2);
        d.dueRow("nor does a BAD plan", Ask.planLines(x, 15), 8, 4, 3);
        x.plan(4, 200, 4);
        d.dueRow("a plan does", Ask.planLines(x, 15), 1, 8, 4, 2);
        x.plan(2, 5, 2);
        d.due("and has its own wishes", x.planned(15, 0), BAD);
    }

    private static void count() {
        SpokenMenus x = new SpokenMenus();
        x.desk(0, 0);
        x.menu(1, 1, -1);
        x.line(1, 1, 1, 1, 1);
        x.group(7, 0, 0, 1, 0, 0);
        x.group(8, 0, 0, 1, 0, 1);
        x.group(9, 0, 0, 1, 0, 1);
        d.due("places", x.count(0), 2);
        d.due("groups", x.count(1), 3);
        d.due("callers", x.count(2), 24);
        for (int what : new int[] {-1, 3, LOW, HIGH}) {
            d.due("count " + what, x.count(what), BAD);
        }
    }
}
