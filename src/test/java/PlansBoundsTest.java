/**
 * Bounds of promises 24 to 27, a test for each sentence of the document that
 * names one. The sentence stands above its test.
 */
public final class PlansBoundsTest {
    private static final int BAD = SpokenMenus.BAD;
    private static final int NO = SpokenMenus.NO;
    private static final int NONE = SpokenMenus.NONE;
    private static final int LOW = Integer.MIN_VALUE;
    private static final int HIGH = Integer.MAX_VALUE;
    private static final Due d = new Due();

    public static void main(String[] args) {
        wishNumbers();
        wishTakesEffect();
        planNumbers();
        notTold();
        greatestCost();
        oneWish();
        breadthIsTheMost();
        eachBreadth();
        notAllOfTheSet();
        lesserFirst();
        lesserSecond();
        noPlanYet();
        plannedSets();
        plannedLines();
        setsOfOne();
        latestPlan();
        countNumbers();
        countLeastAndMost();
        d.end();
    }

    private static SpokenMenus planOf(int n, int groupTicks, int breadth) {
        SpokenMenus x = new SpokenMenus();
        x.plan(n, groupTicks, breadth);
        return x;
    }

    /** All eight wishes alike. */
    private static SpokenMenus alike(int ticks, int callers) {
        SpokenMenus x = new SpokenMenus();
        for (int k = 0; k < 8; k++) {
            x.wish(k, ticks, callers);
        }
        return x;
    }

    /** "WISH k (0 to 7) of plans"; "ticks of its LINE (1 to 200) and callers (0 to 1000)". */
    private static void wishNumbers() {
        d.bounds("wish: k", 0, 7, 0, BAD, v -> new SpokenMenus().wish(v, 1, 0));
        d.bounds("wish: ticks", 1, 200, 0, BAD, v -> new SpokenMenus().wish(0, v, 0));
        d.bounds("wish: callers", 0, 1000, 0, BAD, v -> new SpokenMenus().wish(0, 1, v));
    }

    /** The least and the greatest of them are those of the PLAN. */
    private static void wishTakesEffect() {
        SpokenMenus x = new SpokenMenus();
        x.wish(0, 200, 1000);
        d.due("greatest", x.plan(1, 1, 2), 200000);
        x.wish(0, 1, 1000);
        d.due("least ticks", x.plan(1, 1, 2), 1000);
        x.wish(0, 200, 0);
        d.due("no callers", x.plan(1, 1, 2), 0);
        x.wish(7, 200, 1000);
        d.due("wish 7 is not of a plan for 7", x.plan(7, 1, 2), 0);
        x.plan(8, 200, 2);
        d.due("wish 7 alone and ahead in a plan for 8", x.planned(255, 0), 128);
        d.due("its cost", x.plan(8, 200, 2), 200000);
    }

    /** "n WISHES (1 to 8)"; "ticks of a LINE for a group (1 to 200); BREADTH b (2 to 6)"; "BAD". */
    private static void planNumbers() {
        d.bounds("plan: n", 1, 8, 0, BAD, v -> new SpokenMenus().plan(v, 1, 2));
        d.bounds("plan: groupTicks", 1, 200, 0, BAD, v -> new SpokenMenus().plan(1, v, 2));
        d.bounds("plan: breadth", 2, 6, 0, BAD, v -> new SpokenMenus().plan(1, 1, v));
        d.bounds("plan for 8: groupTicks", 1, 200, 0, BAD, v -> new SpokenMenus().plan(8, v, 2));
        d.bounds("plan for 8: breadth", 2, 6, 0, BAD, v -> new SpokenMenus().plan(8, 1, v));
    }

    /** "(ticks 1, callers 0, if they were not told)". */
    private static void notTold() {
        for (int n = 1; n <= 8; n++) {
            d.due("none told of " + n, new SpokenMenus().plan(n, 200, 6), 0);
        }
        SpokenMenus x = new SpokenMenus();
        x.wish(1, 9, 1);
        d.due("ahead of one with callers it costs its tick", x.plan(2, 200, 2), 9);
        d.due("so it is behind", x.planned(3, 0), 2);
        SpokenMenus y = alike(1, 1);
        SpokenMenus z = new SpokenMenus();
        for (int k = 0; k < 7; k++) {
            z.wish(k, 1, 1);
        }
        y.wish(7, 1, 0);
        d.due("as one told so", z.plan(8, 1, 2), y.plan(8, 1, 2));
        for (int set = 1; set < 256; set++) {
            d.due("as one told so, set " + set, z.planned(set, 0), y.planned(set, 0));
        }
    }

    /** All numbers at their greatest: the cost is 200000 for each LINE that a WISH hears. */
    private static void greatestCost() {
        SpokenMenus x = alike(200, 1000);
        d.due("six lines: 4 with one line more, then 4 alone", x.plan(8, 200, 6), 200000 * (4 + 10 + 2 + 3 + 4 + 5));
        d.due("two lines: 5 and 3", x.plan(8, 200, 2), 200000 * (5 + 17 + 2 * 3 + 7));
        d.due("two lines for two", x.plan(2, 200, 2), 200000 * 3);
    }

    /** "A PLAN for n WISHES (1 to 8)": the MENU of one WISH has one LINE. */
    private static void oneWish() {
        SpokenMenus x = new SpokenMenus();
        x.wish(0, 6, 7);
        for (int breadth = 2; breadth <= 6; breadth++) {
            d.due("its cost", x.plan(1, 1, breadth), 42);
            d.dueRow("its line", Ask.planLines(x, 1), 1);
            d.due("no second line", x.planned(1, 1), NONE);
        }
    }

    /** "a MENU for a set of WISHES has up to b LINES". */
    private static void breadthIsTheMost() {
        SpokenMenus x = alike(1, 1);
        for (int breadth = 2; breadth <= 6; breadth++) {
            x.plan(8, 200, breadth);
            int[] lines = Ask.planLines(x, 255);
            d.due("lines of all, breadth " + breadth, lines.length, breadth);
            d.due("none at the breadth", x.planned(255, breadth), NONE);
            int all = 0;
            for (int part : lines) {
                d.due("no wish twice", all & part, 0);
                all |= part;
            }
            d.due("all wishes", all, 255);
        }
        x.plan(6, 200, 6);
        d.dueRow("six wishes, six lines", Ask.planLines(x, 63), 1, 2, 4, 8, 16, 32);
        x.plan(5, 200, 6);
        d.dueRow("fewer wishes than the breadth", Ask.planLines(x, 31), 1, 2, 4, 8, 16);
    }

    /** One WISH more than the BREADTH makes a group; as many make none. */
    private static void eachBreadth() {
        for (int breadth = 2; breadth <= 6; breadth++) {
            SpokenMenus x = alike(10, 1);
            d.due("as many as " + breadth, x.plan(breadth, 200, breadth), 10 * breadth * (breadth + 1) / 2);
            int last = breadth - 1;
            d.due("one more than " + breadth, x.plan(breadth + 1, 200, breadth),
                10 * (last * (last + 1) / 2 + 2 * last) + 200 * 2 + 30);
            d.due("the last is a group of two", Integer.bitCount(x.planned((1 << breadth + 1) - 1, last)), 2);
        }
    }

    /** "(not all of the set, if there is more than one)". */
    private static void notAllOfTheSet() {
        SpokenMenus x = alike(200, 1000);
        x.plan(8, 1, 2);
        for (int set = 1; set < 256; set++) {
            if (Integer.bitCount(set) > 1) {
                d.holds("set " + set + " is parted", x.planned(set, 0) != set && x.planned(set, 1) > 0);
            }
        }
    }

    /** "of MENUS with that the one whose first LINE has the lesser set (as bits)". */
    private static void lesserFirst() {
        SpokenMenus x = new SpokenMenus();
        x.wish(0, 2, 1);
        x.wish(1, 4, 2);
        d.due("both orders cost the same", x.plan(2, 1, 2), 14);
        d.dueRow("the lesser first", Ask.planLines(x, 3), 1, 2);
        x.wish(1, 4, 3);
        x.plan(2, 1, 2);
        d.dueRow("one caller more", Ask.planLines(x, 3), 2, 1);
        SpokenMenus y = alike(5, 0);
        y.plan(8, 5, 2);
        d.dueRow("all cost nothing", Ask.planLines(y, 255), 1, 254);
        d.dueRow("in each group", Ask.planLines(y, 254), 2, 252);
    }

    /** "then the second, and so on." */
    private static void lesserSecond() {
        SpokenMenus x = alike(5, 0);
        x.plan(4, 5, 3);
        d.dueRow("second and third", Ask.planLines(x, 15), 1, 2, 12);
        x.plan(8, 5, 6);
        d.dueRow("to the sixth", Ask.planLines(x, 255), 1, 2, 4, 8, 16, 224);
        SpokenMenus y = new SpokenMenus();
        y.wish(0, 5, 5);
        y.plan(3, 5, 2);
        d.dueRow("callers first, then all that is left", Ask.planLines(y, 7), 1, 6);
    }

    /** "NO: there is none."; "Of several the first": BAD stands ahead of NO. */
    private static void noPlanYet() {
        d.bounds("planned, no plan: set", 1, 255, NO, BAD, v -> new SpokenMenus().planned(v, 0));
        d.due("j 0", new SpokenMenus().planned(1, 0), NO);
        d.due("j at the most", new SpokenMenus().planned(1, HIGH), NO);
        d.due("j -1", new SpokenMenus().planned(1, -1), BAD);
        d.due("j at the least", new SpokenMenus().planned(1, LOW), BAD);
        SpokenMenus x = new SpokenMenus();
        x.wish(0, 1, 1);
        d.due("wishes, but no plan", x.planned(1, 0), NO);
        x.plan(0, 1, 2);
        x.plan(9, 1, 2);
        d.due("a refused plan is none", x.planned(1, 0), NO);
    }

    /** "BAD: set 1 to 255 of its WISHES". */
    private static void plannedSets() {
        for (int n = 1; n <= 8; n++) {
            int all = (1 << n) - 1;
            d.holds("all of " + n, planOf(n, 1, 2).planned(all, 0) > 0);
            for (int set : new int[] {LOW, -1, 0, all + 1, all + 2, 256, 257, HIGH}) {
                d.due("set " + set + " of " + n, planOf(n, 1, 2).planned(set, 0), BAD);
            }
            if (n < 8) {
                d.due("one of them and one that is not", planOf(n, 1, 2).planned(1 | 1 << n, 0), BAD);
                d.due("all eight", planOf(n, 1, 2).planned(255, 0), BAD);
            }
        }
    }

    /** "BAD: .. j below 0"; "NONE: it has no such LINE". */
    private static void plannedLines() {
        d.due("j 0", planOf(2, 1, 2).planned(3, 0), 1);
        d.due("j 1", planOf(2, 1, 2).planned(3, 1), 2);
        d.due("j 2", planOf(2, 1, 2).planned(3, 2), NONE);
        d.due("j 2, broad", planOf(2, 1, 6).planned(3, 2), NONE);
        d.due("j 5, broad", planOf(2, 1, 6).planned(3, 5), NONE);
        d.due("j 6, broad", planOf(8, 1, 6).planned(255, 6), NONE);
        d.due("j 5, of six", planOf(6, 1, 6).planned(63, 5), 32);
        d.due("j 6, of six", planOf(6, 1, 6).planned(63, 6), NONE);
        d.due("j at the most", planOf(2, 1, 2).planned(3, HIGH), NONE);
        d.due("j -1", planOf(2, 1, 2).planned(3, -1), BAD);
        d.due("j at the least", planOf(2, 1, 2).planned(3, LOW), BAD);
        d.due("BAD ahead of NONE: j", planOf(2, 1, 2).planned(1, -1), BAD);
        d.due("BAD ahead of NONE: set", planOf(2, 1, 2).planned(4, 7), BAD);
    }

    /** "there is no MENU of it (a set of one, unless the PLAN is for one)". */
    private static void setsOfOne() {
        for (int n = 2; n <= 8; n++) {
            for (int k = 0; k < n; k++) {
                d.due("wish " + k + " of " + n, planOf(n, 1, 2).planned(1 << k, 0), NONE);
            }
        }
        d.due("the plan is for one", planOf(1, 1, 2).planned(1, 0), 1);
        d.due("it has one line", planOf(1, 1, 2).planned(1, 1), NONE);
    }

    /** "in the latest PLAN": of the WISHES as they were then. */
    private static void latestPlan() {
        SpokenMenus x = alike(5, 5);
        x.plan(8, 200, 6);
        x.plan(2, 200, 2);
        d.due("a lesser plan behind a greater", x.planned(4, 0), BAD);
        x.wish(1, 1, 1000);
        d.dueRow("a wish told later", Ask.planLines(x, 3), 1, 2);
        x.plan(3, 0, 2);
        d.dueRow("a refused plan", Ask.planLines(x, 3), 1, 2);
        x.plan(2, 200, 2);
        d.dueRow("the plan anew", Ask.planLines(x, 3), 2, 1);
        x.plan(1, 200, 2);
        d.dueRow("a plan for one", Ask.planLines(x, 1), 1);
        x.plan(2, 200, 2);
        d.due("no set of one then", x.planned(1, 0), NONE);
        SpokenMenus y = alike(5, 0);
        y.plan(8, 5, 6);
        y.plan(8, 5, 2);
        d.dueRow("a narrow plan behind a broad one", Ask.planLines(y, 255), 1, 254);
        y.plan(8, 5, 6);
        d.dueRow("a broad plan behind a narrow one", Ask.planLines(y, 255), 1, 2, 4, 8, 16, 224);
    }

    /** "How many: 0 PLACES, 1 GROUPS, 2 CALLERS of all GROUPS. BAD." */
    private static void countNumbers() {
        d.bounds("count: what", 0, 2, 0, BAD, v -> new SpokenMenus().count(v));
    }

    /** None at the least, 40, 12 and 12000 at the most. */
    private static void countLeastAndMost() {
        SpokenMenus x = new SpokenMenus();
        for (int p = 0; p < 40; p++) {
            d.due("places", x.count(0), p);
            x.menu(1, 1, -1);
        }
        for (int g = 0; g < 12; g++) {
            d.due("groups", x.count(1), g);
            d.due("callers", x.count(2), g * 1000);
            x.group(1000, 0, 0, 1, 0, 0);
        }
        x.desk(0, 0);
        x.group(1, 0, 0, 1, 0, 0);
        d.due("40 places", x.count(0), 40);
        d.due("12 groups", x.count(1), 12);
        d.due("12000 callers", x.count(2), 12000);
        x.line(0, 1, 1, 1, 1);
        d.due("a line is no place", x.count(0), 40);
        x.noGroups();
        d.due("no groups", x.count(1), 0);
        d.due("no callers", x.count(2), 0);
        d.due("still 40 places", x.count(0), 40);
    }
}
