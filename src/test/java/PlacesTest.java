/** Promises 1 to 11: a new object, and places. */
public final class PlacesTest {
    private static final int BAD = SpokenMenus.BAD;
    private static final int FULL = SpokenMenus.FULL;
    private static final int NOT = -1000;
    private static final int LOW = Integer.MIN_VALUE;
    private static final int HIGH = Integer.MAX_VALUE;
    private static final Due d = new Due();

    public static void main(String[] args) {
        constants();
        newObject();
        menu();
        line();
        desk();
        leaf();
        clock();
        asked();
        full();
        change();
        swap();
        place();
        lineOf();
        d.end();
    }

    private static void constants() {
        d.due("BAD", SpokenMenus.BAD, -1);
        d.due("NO", SpokenMenus.NO, -2);
        d.due("FULL", SpokenMenus.FULL, -3);
        d.due("NONE", SpokenMenus.NONE, -4);
    }

    private static void newObject() {
        SpokenMenus x = new SpokenMenus();
        d.due("new: places", x.count(0), 0);
        d.due("new: groups", x.count(1), 0);
        d.due("new: callers", x.count(2), 0);
        d.due("new: plan", x.planned(1, 0), SpokenMenus.NO);
        d.due("new: place 0", x.place(0, 0), NOT);
        d.due("new: call", x.call(0), SpokenMenus.NONE);
        d.due("new: came", x.came(0), SpokenMenus.NONE);
        d.due("new: pressed", x.pressed(0), SpokenMenus.NONE);
        SpokenMenus y = new SpokenMenus();
        x.desk(1, 1);
        x.group(1, 0, 0, 1, 0, 0);
        d.due("another object's places", y.count(0), 0);
        d.due("another object's groups", y.count(1), 0);
    }

    private static void menu() {
        SpokenMenus x = new SpokenMenus();
        for (int wait : new int[] {0, 101, -1, LOW, HIGH}) {
            d.due("menu wait " + wait, x.menu(wait, 1, -1), BAD);
        }
        for (int times : new int[] {0, 4, -1, LOW, HIGH}) {
            d.due("menu times " + times, x.menu(1, times, -1), BAD);
        }
        for (int then : new int[] {-2, 40, LOW, HIGH}) {
            d.due("menu then " + then, x.menu(1, 1, then), BAD);
        }
        d.due("no place of BAD menus", x.count(0), 0);
        d.due("least menu", x.menu(1, 1, -1), 0);
        d.due("most menu", x.menu(100, 3, 39), 1);
        d.due("menus", x.count(0), 2);
        d.due("without lines", x.place(1, 2), 0);
    }

    private static void line() {
        SpokenMenus x = new SpokenMenus();
        d.due("line of no place", x.line(0, 1, 0, 0, -1), BAD);
        x.menu(1, 1, -1);
        x.desk(0, 0);
        x.leaf(1, 0, -1);
        x.clock(0, 0, -1, -1);
        x.asked(1, 1, 1, -1, -1);
        for (int place : new int[] {-1, 1, 2, 3, 4, 5, 40, LOW, HIGH}) {
            d.due("line of place " + place, x.line(place, 1, 0, 0, -1), BAD);
        }
        for (int ticks : new int[] {0, 201, LOW, HIGH}) {
            d.due("line ticks " + ticks, x.line(0, ticks, 0, 0, -1), BAD);
        }
        for (int key : new int[] {-1, 12, LOW, HIGH}) {
            d.due("line key " + key, x.line(0, 1, key, 0, -1), BAD);
        }
        for (int wishes : new int[] {-1, 65536, LOW, HIGH}) {
            d.due("line wishes " + wishes, x.line(0, 1, 0, wishes, -1), BAD);
        }
        for (int next : new int[] {-2, 40, LOW, HIGH}) {
            d.due("line next " + next, x.line(0, 1, 0, 0, next), BAD);
        }
        d.due("no line of BAD ones", x.place(0, 2), 0);
        d.due("least line", x.line(0, 1, 0, 0, -1), 1);
        d.due("most line", x.line(0, 200, 11, 65535, 39), 2);
        d.due("the first key again", x.line(0, 1, 0, 0, -1), BAD);
        d.due("the last key again", x.line(0, 1, 11, 0, -1), BAD);
        for (int key = 1; key <= 4; key++) {
            d.due("key " + key, x.line(0, 5, key, 1, 1), key + 2);
        }
        d.due("a seventh line", x.line(0, 5, 5, 1, 1), FULL);
        d.due("BAD ahead of FULL: a key again", x.line(0, 5, 4, 1, 1), BAD);
        d.due("BAD ahead of FULL: next", x.line(0, 5, 5, 1, 40), BAD);
        d.due("six lines", x.place(0, 2), 6);
        x.menu(1, 1, -1);
        d.due("the key in another menu", x.line(5, 1, 11, 0, 5), 1);
    }

    private static void desk() {
        SpokenMenus x = new SpokenMenus();
        for (int ticks : new int[] {-1, 501, LOW, HIGH}) {
            d.due("desk ticks " + ticks, x.desk(ticks, 0), BAD);
        }
        for (int wishes : new int[] {-1, 65536, LOW, HIGH}) {
            d.due("desk wishes " + wishes, x.desk(0, wishes), BAD);
        }
        d.due("least desk", x.desk(0, 0), 0);
        d.due("most desk", x.desk(500, 65535), 1);
    }

    private static void leaf() {
        SpokenMenus x = new SpokenMenus();
        for (int ticks : new int[] {0, 201, LOW, HIGH}) {
            d.due("leaf ticks " + ticks, x.leaf(ticks, 0, -1), BAD);
        }
        for (int wishes : new int[] {-1, 65536, LOW, HIGH}) {
            d.due("leaf wishes " + wishes, x.leaf(1, wishes, -1), BAD);
        }
        for (int then : new int[] {-2, 40, LOW, HIGH}) {
            d.due("leaf then " + then, x.leaf(1, 0, then), BAD);
        }
        d.due("least leaf", x.leaf(1, 0, -1), 0);
        d.due("most leaf", x.leaf(200, 65535, 39), 1);
    }

    private static void clock() {
        SpokenMenus x = new SpokenMenus();
        for (int hour : new int[] {-1, 24, LOW, HIGH}) {
            d.due("clock from " + hour, x.clock(hour, 0, -1, -1), BAD);
            d.due("clock to " + hour, x.clock(0, hour, -1, -1), BAD);
        }
        for (int next : new int[] {-2, 40, LOW, HIGH}) {
            d.due("clock open " + next, x.clock(0, 0, next, -1), BAD);
            d.due("clock shut " + next, x.clock(0, 0, -1, next), BAD);
        }
        d.due("least clock", x.clock(0, 0, -1, -1), 0);
        d.due("most clock", x.clock(23, 23, 39, 39), 1);
        d.due("clock over midnight", x.clock(22, 6, 0, 1), 2);
    }

    private static void asked() {
        SpokenMenus x = new SpokenMenus();
        for (int ticks : new int[] {0, 201, LOW, HIGH}) {
            d.due("asked ticks " + ticks, x.asked(ticks, 1, 1, -1, -1), BAD);
        }
        for (int figures : new int[] {0, 9, LOW, HIGH}) {
            d.due("asked figures " + figures, x.asked(1, figures, 1, -1, -1), BAD);
        }
        for (int tries : new int[] {0, 4, LOW, HIGH}) {
            d.due("asked tries " + tries, x.asked(1, 1, tries, -1, -1), BAD);
        }
        for (int next : new int[] {-2, 40, LOW, HIGH}) {
            d.due("asked right " + next, x.asked(1, 1, 1, next, -1), BAD);
            d.due("asked wrong " + next, x.asked(1, 1, 1, -1, next), BAD);
        }
        d.due("least asked", x.asked(1, 1, 1, -1, -1), 0);
        d.due("most asked", x.asked(200, 8, 3, 39, 39), 1);
    }

    private static void full() {
        SpokenMenus x = new SpokenMenus();
        for (int p = 0; p < 40; p++) {
            d.due("place " + p, x.desk(p, 0), p);
        }
        d.due("a 41st menu", x.menu(1, 1, -1), FULL);
        d.due("a 41st desk", x.desk(0, 0), FULL);
        d.due("a 41st leaf", x.leaf(1, 0, -1), FULL);
        d.due("a 41st clock", x.clock(0, 0, -1, -1), FULL);
        d.due("a 41st asked", x.asked(1, 1, 1, -1, -1), FULL);
        d.due("a BAD menu ahead of FULL", x.menu(0, 1, -1), BAD);
        d.due("a BAD desk ahead of FULL", x.desk(501, 0), BAD);
        d.due("a BAD leaf ahead of FULL", x.leaf(1, 0, 40), BAD);
        d.due("a BAD clock ahead of FULL", x.clock(24, 0, -1, -1), BAD);
        d.due("a BAD asked ahead of FULL", x.asked(1, 0, 1, -1, -1), BAD);
        d.due("40 places", x.count(0), 40);
        d.due("the last place", x.place(39, 1), 39);
        d.due("no place 40", x.place(40, 0), NOT);
    }

    private static SpokenMenus twoLines() {
        SpokenMenus x = new SpokenMenus();
        x.menu(9, 2, 3);
        x.line(0, 10, 7, 5, 1);
        x.line(0, 20, 8, 6, -1);
        x.desk(4, 7);
        return x;
    }

    private static void change() {
        SpokenMenus x = twoLines();
        d.due("change ticks", x.change(0, 0, 0, 200), 10);
        d.due("change wishes", x.change(0, 0, 1, 65535), 5);
        d.due("change next", x.change(0, 0, 2, 39), 1);
        d.dueRow("changed line", Ask.lineTold(x, 0, 0), 200, 7, 65535, 39);
        d.due("change to the least ticks", x.change(0, 0, 0, 1), 200);
        d.due("change to no wishes", x.change(0, 0, 1, 0), 65535);
        d.due("change to no next", x.change(0, 0, 2, -1), 39);
        d.due("what next was: none", x.change(0, 1, 2, 0), -1);
        d.dueRow("changed line again", Ask.lineTold(x, 0, 0), 1, 7, 0, -1);
        d.dueRow("the other line", Ask.lineTold(x, 0, 1), 20, 8, 6, 0);
        int[][] bad = {
            {-1, 0, 0, 5}, {1, 0, 0, 5}, {2, 0, 0, 5}, {HIGH, 0, 0, 5},
            {0, -1, 0, 5}, {0, 2, 0, 5}, {0, 6, 0, 5}, {0, HIGH, 0, 5}, {0, LOW, 0, 5},
            {0, 0, -1, 5}, {0, 0, 3, 5}, {0, 0, HIGH, 5},
            {0, 0, 0, 0}, {0, 0, 0, 201}, {0, 0, 1, -1}, {0, 0, 1, 65536}, {0, 0, 2, -2}, {0, 0, 2, 40},
        };
        for (int[] b : bad) {
            d.due("change " + b[0] + " " + b[1] + " " + b[2] + " " + b[3], x.change(b[0], b[1], b[2], b[3]), NOT);
        }
        d.dueRow("after BAD changes", Ask.lineTold(x, 0, 0), 1, 7, 0, -1);
    }

    private static void swap() {
        SpokenMenus x = twoLines();
        d.due("swap", x.swap(0, 0, 1), 0);
        d.dueRow("first behind swap", Ask.lineTold(x, 0, 0), 20, 8, 6, -1);
        d.dueRow("second behind swap", Ask.lineTold(x, 0, 1), 10, 7, 5, 1);
        d.due("swap with itself", x.swap(0, 1, 1), 0);
        d.dueRow("second behind that", Ask.lineTold(x, 0, 1), 10, 7, 5, 1);
        int[][] bad = {{-1, 0, 1}, {1, 0, 0}, {2, 0, 0}, {0, -1, 0}, {0, 0, -1}, {0, 2, 0}, {0, 0, 2}, {0, HIGH, LOW}, {HIGH, 0, 0}};
        for (int[] b : bad) {
            d.due("swap " + b[0] + " " + b[1] + " " + b[2], x.swap(b[0], b[1], b[2]), BAD);
        }
        d.dueRow("after BAD swaps", Ask.lineTold(x, 0, 0), 20, 8, 6, -1);
    }

    private static void place() {
        SpokenMenus x = twoLines();
        x.leaf(11, 12, 13);
        x.clock(1, 2, 14, 15);
        x.asked(16, 5, 2, 17, 18);
        d.dueRow("a menu", Ask.told(x, 0), 0, 9, 2, 3, -1, 0);
        d.dueRow("a desk", Ask.told(x, 1), 1, 4, 0, -1, -1, 7);
        d.dueRow("a leaf", Ask.told(x, 2), 2, 11, 0, 13, -1, 12);
        d.dueRow("a clock", Ask.told(x, 3), 3, 0, 0, 14, 15, 0);
        d.dueRow("asked", Ask.told(x, 4), 4, 16, 0, 17, 18, 0);
        for (int p : new int[] {-1, 5, 40, LOW, HIGH}) {
            d.due("place " + p, x.place(p, 0), NOT);
        }
        for (int what : new int[] {-1, 6, LOW, HIGH}) {
            d.due("place 0 " + what, x.place(0, what), NOT);
        }
    }

    private static void lineOf() {
        SpokenMenus x = twoLines();
        d.dueRow("line 0", Ask.lineTold(x, 0, 0), 10, 7, 5, 1);
        d.dueRow("line 1", Ask.lineTold(x, 0, 1), 20, 8, 6, -1);
        int[][] bad = {{-1, 0, 0}, {1, 0, 0}, {2, 0, 0}, {0, -1, 0}, {0, 2, 0}, {0, 6, 0}, {0, 0, -1}, {0, 0, 4}, {0, HIGH, 0}, {LOW, LOW, LOW}};
        for (int[] b : bad) {
            d.due("lineOf " + b[0] + " " + b[1] + " " + b[2], x.lineOf(b[0], b[1], b[2]), NOT);
        }
    }
}
