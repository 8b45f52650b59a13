/** Promises 18 to 23: groups. */
public final class GroupsTest {
    private static final int BAD = SpokenMenus.BAD;
    private static final int NO = SpokenMenus.NO;
    private static final int NONE = SpokenMenus.NONE;
    private static final int LOW = Integer.MIN_VALUE;
    private static final int HIGH = Integer.MAX_VALUE;
    private static final Due d = new Due();

    public static void main(String[] args) {
        group();
        noGroups();
        sum();
        hung();
        order();
        whoCounts();
        likeLines();
        arrange();
        d.end();
    }

    private static void group() {
        SpokenMenus x = new SpokenMenus();
        int[][] bad = {
            {0, 0, 0, 1, 0, 0}, {1001, 0, 0, 1, 0, 0}, {LOW, 0, 0, 1, 0, 0}, {HIGH, 0, 0, 1, 0, 0},
            {1, -1, 0, 1, 0, 0}, {1, 16, 0, 1, 0, 0}, {1, 0, -1, 1, 0, 0}, {1, 0, 100000000, 1, 0, 0},
            {1, 0, 0, 0, 0, 0}, {1, 0, 0, 5001, 0, 0}, {1, 0, 0, 1, -1, 0}, {1, 0, 0, 1, 24, 0},
            {1, 0, 0, 1, 0, -1}, {1, 0, 0, 1, 0, 2},
        };
        for (int i = 0; i < bad.length; i++) {
            int[] b = bad[i];
            d.due("BAD group " + i, x.group(b[0], b[1], b[2], b[3], b[4], b[5]), BAD);
        }
        d.due("no group of BAD ones", x.count(1), 0);
        d.due("least group, ahead of any place", x.group(1, 0, 0, 1, 0, 0), 1);
        for (int g = 2; g <= 12; g++) {
            d.due("group " + g, x.group(1000, 15, 99999999, 5000, 23, 1), g);
        }
        d.due("a 13th group", x.group(1, 0, 0, 1, 0, 0), SpokenMenus.FULL);
        d.due("BAD ahead of FULL", x.group(0, 0, 0, 1, 0, 0), BAD);
        d.due("12 groups", x.count(1), 12);
        d.due("their callers", x.count(2), 11001);
    }

    private static void noGroups() {
        SpokenMenus x = new SpokenMenus();
        d.due("there were none", x.noGroups(), 0);
        x.group(3, 0, 0, 1, 0, 0);
        x.group(4, 0, 0, 1, 0, 0);
        d.due("there were two", x.noGroups(), 2);
        d.due("groups", x.count(1), 0);
        d.due("callers", x.count(2), 0);
        d.due("the first again", x.group(5, 0, 0, 1, 0, 0), 1);
        d.due("its callers", x.count(2), 5);
    }

    private static SpokenMenus house() {
        SpokenMenus x = new SpokenMenus();
        x.menu(5, 1, 3);
        x.line(0, 10, 1, 1, 1);
        x.line(0, 20, 2, 2, 2);
        x.line(0, 30, 3, 4, 3);
        x.desk(8, 1);
        x.leaf(6, 0, -1);
        x.clock(12, 13, 3, 1);
        return x;
    }

    private static void sum() {
        SpokenMenus x = new SpokenMenus();
        x.group(1, 0, 0, 1, 0, 0);
        d.due("no place 0", x.sum(0), NO);
        d.due("BAD ahead of NO", x.sum(5), BAD);
        x = house();
        d.dueRow("without groups", Ask.sums(x), 0, 0, 0, 0, 0);
        x.group(10, 0, 0, 100, 0, 0);
        x.group(100, 1, 0, 100, 0, 0);
        x.group(3, 0, 0, 15, 0, 0);
        x.group(7, 2, 0, 100, 12, 0);
        x.group(2, 0, 0, 100, 0, 1);
        d.dueRow("of five groups", Ask.sums(x),
            10 * 19 + 100 * 37 + 3 * 15 + 7 * 61 + 2 * 9, 12, 100, 3, 7);
        for (int what : new int[] {-1, 5, LOW, HIGH}) {
            d.due("sum " + what, x.sum(what), BAD);
        }
        SpokenMenus y = new SpokenMenus();
        y.leaf(1, 0, 0);
        for (int g = 0; g < 12; g++) {
            y.group(1000, 0, 0, 5000, 0, 0);
        }
        d.dueRow("the most", Ask.sums(y), 60000000, 0, 0, 12000, 0);
    }

    private static void hung() {
        SpokenMenus x = house();
        x.group(10, 0, 0, 10, 0, 0);
        x.group(20, 0, 0, 9, 0, 0);
        x.group(40, 0, 0, 18, 0, 0);
        x.group(80, 1, 0, 36, 0, 0);
        x.group(160, 0, 0, 500, 0, 0);
        x.group(320, 0, 0, 8, 0, 1);
        d.due("at the menu", x.hung(0), 30);
        d.due("at the desk", x.hung(1), 360);
        d.due("at the leaf", x.hung(2), 80);
        d.due("at the clock", x.hung(3), 0);
        for (int place : new int[] {-1, 4, 40, LOW, HIGH}) {
            d.due("hung at " + place, x.hung(place), BAD);
        }
    }

    private static void order() {
        SpokenMenus x = house();
        d.due("without groups", x.order(0, -1), 0);
        d.due("without groups, best", x.order(0, -2), 0);
        d.dueRow("as they stand", Ask.ordered(x, 0), 0, 1, 2);
        x.group(1, 0, 0, 500, 0, 0);
        x.group(4, 1, 0, 500, 0, 0);
        x.group(5, 2, 0, 500, 0, 0);
        d.due("sum", x.order(0, -1), 10 + 4 * 30 + 5 * 60);
        d.due("least sum", x.order(0, -2), 4 * 20 + 5 * 50 + 60);
        d.dueRow("best", Ask.ordered(x, 0), 1, 2, 0);
        d.due("no line 3", x.order(0, 3), NONE);
        d.due("no line 6", x.order(0, 6), NONE);
        d.due("no line at the most", x.order(0, HIGH), NONE);
        d.due("order -3", x.order(0, -3), BAD);
        d.due("order at the least", x.order(0, LOW), BAD);
        for (int place : new int[] {-1, 1, 2, 3, 4, 40, LOW, HIGH}) {
            d.due("order of " + place, x.order(place, 0), BAD);
        }
        d.due("nothing moves", x.lineOf(0, 0, 1), 1);
        x.menu(1, 1, -1);
        d.due("a menu without lines", x.order(4, 0), NONE);
        d.due("its sum", x.order(4, -2), 0);
    }

    private static void whoCounts() {
        SpokenMenus x = new SpokenMenus();
        x.clock(8, 18, 1, -1);
        x.menu(1, 1, 2);
        x.line(1, 10, 0, 1, 2);
        x.line(1, 4, 1, 3, 1);
        x.leaf(3, 0, 1);
        x.group(1, 0, 0, 5000, 8, 0);
        d.due("asked once, though it comes again and again", x.order(1, -1), 10);
        x.group(100, 0, 0, 5000, 7, 0);
        d.due("who does not come to it", x.order(1, -1), 10);
        x.group(1000, 1, 0, 5000, 8, 1);
        d.due("who knows, even without a way", x.order(1, -1), 10);
        x.group(1000, 2, 0, 5000, 8, 0);
        d.due("of whose wish no line speaks", x.order(1, -1), 10);
        x.group(2, 1, 0, 1, 8, 0);
        d.due("who hangs up at it", x.order(1, -1), 10 + 2 * 14);
        d.dueRow("at the first line that speaks of it", Ask.ordered(x, 1), 1, 0);
        d.due("by the lines there are", x.order(1, -2), 2 * 4 + 14);
        SpokenMenus y = new SpokenMenus();
        y.leaf(10, 0, 1);
        y.menu(1, 1, -1);
        y.line(1, 5, 0, 1, -1);
        y.group(1, 0, 0, 9, 0, 0);
        d.due("who hangs up ahead of it", y.order(1, -1), 0);
        y.group(3, 0, 0, 10, 0, 0);
        d.due("who just comes to it", y.order(1, -1), 15);
    }

    private static void likeLines() {
        SpokenMenus x = new SpokenMenus();
        x.menu(1, 1, -1);
        int[] ticks = {9, 6, 8, 4, 2, 7};
        for (int i = 0; i < 6; i++) {
            x.line(0, ticks[i], i, 1 << i, -1);
        }
        x.group(3, 1, 0, 500, 0, 0);
        x.group(2, 3, 0, 500, 0, 0);
        x.group(1, 4, 0, 500, 0, 0);
        d.dueRow("like ones and those without callers as they stand", Ask.ordered(x, 0), 1, 3, 4, 0, 2, 5);
        d.due("sum", x.order(0, -1), 3 * 15 + 2 * 27 + 29);
        d.due("least sum", x.order(0, -2), 3 * 6 + 2 * 10 + 12);
        d.due("arrange", x.arrange(0), 0);
        d.dueRow("arranged already", Ask.ordered(x, 0), 0, 1, 2, 3, 4, 5);
        for (int i = 0; i < 6; i++) {
            d.due("line " + i, x.lineOf(0, i, 1), new int[] {1, 3, 4, 0, 2, 5}[i]);
        }
    }

    private static void arrange() {
        SpokenMenus x = house();
        for (int place : new int[] {-1, 1, 2, 3, 4, 40, LOW, HIGH}) {
            d.due("arrange " + place, x.arrange(place), BAD);
        }
        d.due("arrange without groups", x.arrange(0), 0);
        d.due("as it stood", x.lineOf(0, 0, 1), 1);
        x.group(1, 0, 0, 500, 0, 0);
        x.group(4, 1, 0, 500, 0, 0);
        x.group(5, 2, 0, 500, 0, 0);
        d.due("arrange", x.arrange(0), 0);
        int[][] want = {{20, 2, 2, 2}, {30, 3, 4, 3}, {10, 1, 1, 1}};
        for (int i = 0; i < 3; i++) {
            for (int what = 0; what < 4; what++) {
                d.due("line " + i + " " + what, x.lineOf(0, i, what), want[i][what]);
            }
        }
        d.due("three lines", x.place(0, 2), 3);
        d.due("sum as they stand now", x.order(0, -1), 390);
        d.due("calls hear the new order", x.ring(0, 0, 500, 0, 0), 0);
        d.due("its ticks", x.call(0), 60 + 1 + 8);
    }
}
