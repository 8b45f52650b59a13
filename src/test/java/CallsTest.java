/** Promises 12 to 17: calls. */
public final class CallsTest {
    private static final int BAD = SpokenMenus.BAD;
    private static final int NO = SpokenMenus.NO;
    private static final int NONE = SpokenMenus.NONE;
    private static final int LOW = Integer.MIN_VALUE;
    private static final int HIGH = Integer.MAX_VALUE;
    private static final int SERVED = 0, ENDED = 1, HUNG_UP = 2, LOST = 3;
    private static final Due d = new Due();

    public static void main(String[] args) {
        wrongCallers();
        listening();
        hearingAll();
        nextThatIsNotThere();
        deskAndLeaf();
        clocks();
        lost();
        numbers();
        tries();
        patienceAtMenu();
        patienceElsewhere();
        whoKnows();
        likeWays();
        knowingNoWay();
        latestCall();
        kept();
        fewest();
        traps();
        trapsAtAsked();
        longHouses();
        d.end();
    }

    private static void wrongCallers() {
        SpokenMenus x = new SpokenMenus();
        d.due("no place 0", x.ring(0, 0, 1, 0, 0), NO);
        d.due("BAD ahead of NO", x.ring(16, 0, 1, 0, 0), BAD);
        d.due("no call was", x.call(0), NONE);
        d.due("BAD call", x.call(4), BAD);
        x.desk(0, 65535);
        int[][] bad = {
            {-1, 0, 1, 0, 0}, {16, 0, 1, 0, 0}, {LOW, 0, 1, 0, 0},
            {0, -1, 1, 0, 0}, {0, 100000000, 1, 0, 0}, {0, HIGH, 1, 0, 0},
            {0, 0, 0, 0, 0}, {0, 0, 5001, 0, 0}, {0, 0, LOW, 0, 0},
            {0, 0, 1, -1, 0}, {0, 0, 1, 24, 0}, {0, 0, 1, HIGH, 0},
            {0, 0, 1, 0, -1}, {0, 0, 1, 0, 2}, {0, 0, 1, 0, HIGH},
        };
        for (int i = 0; i < bad.length; i++) {
            int[] b = bad[i];
            d.due("BAD ring " + i, x.ring(b[0], b[1], b[2], b[3], b[4]), BAD);
        }
        d.due("still no call", x.call(0), NONE);
        d.due("least caller", x.ring(0, 0, 1, 0, 0), SERVED);
        d.due("most caller", x.ring(15, 99999999, 5000, 23, 1), SERVED);
    }

    private static SpokenMenus oneMenu() {
        SpokenMenus x = new SpokenMenus();
        x.menu(5, 2, 2);
        x.line(0, 10, 4, 1, 1);
        x.line(0, 20, 9, 3, 1);
        x.desk(3, 7);
        x.leaf(2, 8, 1);
        return x;
    }

    private static void listening() {
        SpokenMenus x = oneMenu();
        d.dueRow("first line", Ask.rung(x, 0, 0, 1000, 0, 0), SERVED, 14, 1, 2, 1);
        d.due("its key", x.pressed(0), 4);
        d.dueRow("second line", Ask.rung(x, 1, 0, 1000, 0, 0), SERVED, 34, 1, 2, 1);
        d.due("its key", x.pressed(0), 9);
    }

    private static void hearingAll() {
        SpokenMenus x = oneMenu();
        d.dueRow("no line speaks of it", Ask.rung(x, 2, 0, 1000, 0, 0), SERVED, 2 * 35 + 2 + 3, 1, 3, 0);
        d.due("came to the menu", x.came(0), 0);
        d.due("came to the leaf", x.came(1), 2);
        d.due("came to the desk", x.came(2), 1);
        SpokenMenus y = new SpokenMenus();
        y.menu(7, 3, -1);
        d.dueRow("without lines", Ask.rung(y, 2, 0, 1000, 0, 0), ENDED, 21, 0, 1, 0);
    }

    private static void nextThatIsNotThere() {
        SpokenMenus x = new SpokenMenus();
        x.menu(1, 1, 1);
        x.line(0, 2, 3, 1, 30);
        d.dueRow("a line's next", Ask.rung(x, 0, 0, 100, 0, 0), ENDED, 3, 0, 1, 1);
        d.dueRow("then", Ask.rung(x, 1, 0, 100, 0, 0), ENDED, 3, 0, 1, 0);
        x.desk(1, 2);
        d.dueRow("then, there by now", Ask.rung(x, 1, 0, 100, 0, 0), SERVED, 4, 1, 2, 0);
        d.due("nothing is kept of what is not there", x.ring(0, 0, 100, 0, 0), ENDED);
        d.due("came once", x.came(1), NONE);
    }

    private static void deskAndLeaf() {
        SpokenMenus x = new SpokenMenus();
        x.leaf(4, 1, 1);
        x.desk(6, 2);
        d.dueRow("served at the leaf", Ask.rung(x, 0, 0, 100, 0, 0), SERVED, 4, 0, 1, 0);
        d.dueRow("served at the desk", Ask.rung(x, 1, 0, 100, 0, 0), SERVED, 10, 1, 2, 0);
        d.dueRow("ended at the desk", Ask.rung(x, 2, 0, 100, 0, 0), ENDED, 10, 1, 2, 0);
    }

    private static void clockIs(int from, int to, int... open) {
        SpokenMenus x = new SpokenMenus();
        x.clock(from, to, 1, 2);
        x.desk(0, 1);
        x.desk(0, 1);
        for (int hour = 0; hour < 24; hour++) {
            boolean isOpen = false;
            for (int o : open) {
                isOpen |= o == hour;
            }
            d.dueRow("clock " + from + " to " + to + " at " + hour, Ask.rung(x, 0, 0, 1, hour, 0),
                SERVED, 0, isOpen ? 1 : 2, 2, 0);
        }
    }

    private static void clocks() {
        clockIs(9, 12, 9, 10, 11);
        clockIs(22, 2, 22, 23, 0, 1);
        clockIs(22, 0, 22, 23);
        clockIs(0, 1, 0);
        clockIs(7, 7, 0, 1, 2, 3, 4, 5, 6, 7, 8, 9, 10, 11, 12, 13, 14, 15, 16, 17, 18, 19, 20, 21, 22, 23);
    }

    private static void lost() {
        SpokenMenus x = new SpokenMenus();
        x.clock(0, 0, 0, -1);
        d.dueRow("one clock", Ask.rung(x, 0, 0, 1, 0, 0), LOST, 0, 0, 41, 0);
        d.due("the 41st coming", x.came(40), 0);
        d.due("no 42nd", x.came(41), NONE);
        d.dueRow("a call behind it", Ask.rung(x, 0, 0, 1, 0, 0), LOST, 0, 0, 41, 0);
        SpokenMenus w = new SpokenMenus();
        w.leaf(1, 0, 1);
        w.clock(0, 0, 1, -1);
        d.dueRow("a leaf, then one clock", Ask.rung(w, 0, 0, 1, 0, 0), LOST, 1, 1, 42, 0);
        SpokenMenus y = new SpokenMenus();
        for (int p = 0; p < 39; p++) {
            y.clock(0, 0, p + 1, -1);
        }
        y.leaf(1, 0, 0);
        d.dueRow("39 clocks on end do not lose", Ask.rung(y, 0, 0, 1, 0, 0), HUNG_UP, 1, 39, 80, 0);
        SpokenMenus z = new SpokenMenus();
        z.clock(0, 0, 1, -1);
        z.leaf(1, 0, 0);
        d.dueRow("clocks that are not on end", Ask.rung(z, 0, 0, 100, 0, 0), HUNG_UP, 100, 1, 202, 0);
    }

    private static int right(int figures, int number) {
        SpokenMenus x = new SpokenMenus();
        x.asked(1, figures, 1, 1, 2);
        x.desk(0, 1);
        x.desk(0, 1);
        x.ring(0, number, 5000, 0, 0);
        return x.call(1) == 1 ? 1 : 0;
    }

    private static void numbers() {
        d.due("0", right(1, 0), 1);
        d.due("1", right(1, 1), 0);
        d.due("13: 3 + 3", right(2, 13), 0);
        d.due("91: 1 + 27", right(2, 91), 0);
        d.due("31: 1 + 9", right(2, 31), 1);
        d.due("31 for one figure", right(1, 31), 0);
        d.due("13 the other way round", right(8, 13), 0);
        d.due("130", right(3, 130), 1);
        d.due("130 for two figures", right(2, 130), 0);
        d.due("130 for eight figures", right(8, 130), 1);
        d.due("10000009: 9 + 3", right(8, 10000009), 0);
        d.due("10000007: 7 + 3", right(8, 10000007), 1);
        d.due("10000007 for seven figures", right(7, 10000007), 0);
        d.due("99999999: 36 + 108", right(8, 99999999), 0);
        d.due("55555555: 20 + 60", right(8, 55555555), 1);
    }

    private static void tries() {
        SpokenMenus x = new SpokenMenus();
        x.asked(10, 4, 3, 1, 2);
        x.desk(1, 1);
        x.desk(2, 1);
        d.dueRow("right", Ask.rung(x, 0, 31, 1000, 0, 0), SERVED, 15, 1, 2, 0);
        d.dueRow("wrong", Ask.rung(x, 0, 32, 1000, 0, 0), SERVED, 44, 2, 2, 0);
        d.dueRow("right, who knows", Ask.rung(x, 0, 31, 1000, 0, 1), SERVED, 5, 1, 2, 0);
        d.dueRow("wrong, who knows", Ask.rung(x, 0, 32, 1000, 0, 1), SERVED, 14, 2, 2, 0);
    }

    private static void patienceAtMenu() {
        SpokenMenus x = oneMenu();
        d.dueRow("just served", Ask.rung(x, 0, 0, 14, 0, 0), SERVED, 14, 1, 2, 1);
        d.dueRow("at the desk", Ask.rung(x, 0, 0, 13, 0, 0), HUNG_UP, 13, 1, 2, 1);
        d.dueRow("the key's tick", Ask.rung(x, 0, 0, 10, 0, 0), HUNG_UP, 10, 0, 1, 1);
        d.due("the key", x.pressed(0), 4);
        d.dueRow("ahead of the key", Ask.rung(x, 0, 0, 9, 0, 0), HUNG_UP, 9, 0, 1, 0);
        d.due("no key", x.pressed(0), NONE);
        d.dueRow("in all that is heard", Ask.rung(x, 2, 0, 69, 0, 0), HUNG_UP, 69, 0, 1, 0);
        d.dueRow("behind it", Ask.rung(x, 2, 0, 70, 0, 0), HUNG_UP, 70, 2, 2, 0);
        d.dueRow("who knows presses at once", Ask.rung(x, 0, 0, 1, 0, 1), HUNG_UP, 1, 1, 2, 1);
        SpokenMenus y = new SpokenMenus();
        y.leaf(1, 0, 1);
        y.menu(1, 1, -1);
        y.line(1, 1, 5, 1, 2);
        y.desk(0, 1);
        d.dueRow("who knows: the key's tick", Ask.rung(y, 0, 0, 1, 0, 1), HUNG_UP, 1, 1, 2, 1);
    }

    private static void patienceElsewhere() {
        SpokenMenus x = new SpokenMenus();
        x.leaf(5, 1, -1);
        d.dueRow("ahead of served at a leaf", Ask.rung(x, 0, 0, 4, 0, 0), HUNG_UP, 4, 0, 1, 0);
        d.dueRow("just served at a leaf", Ask.rung(x, 0, 0, 5, 0, 0), SERVED, 5, 0, 1, 0);
        d.dueRow("ahead of ended", Ask.rung(x, 1, 0, 4, 0, 0), HUNG_UP, 4, 0, 1, 0);
        d.dueRow("just ended", Ask.rung(x, 1, 0, 5, 0, 0), ENDED, 5, 0, 1, 0);
        SpokenMenus y = new SpokenMenus();
        y.desk(5, 1);
        d.dueRow("ahead of served at a desk", Ask.rung(y, 0, 0, 4, 0, 0), HUNG_UP, 4, 0, 1, 0);
        d.dueRow("ahead of ended at a desk", Ask.rung(y, 1, 0, 4, 0, 0), HUNG_UP, 4, 0, 1, 0);
        SpokenMenus z = new SpokenMenus();
        z.asked(5, 2, 2, 1, 1);
        z.desk(0, 1);
        d.dueRow("asked twice, just", Ask.rung(z, 0, 1, 14, 0, 0), SERVED, 14, 1, 2, 0);
        d.dueRow("asked twice", Ask.rung(z, 0, 1, 13, 0, 0), HUNG_UP, 13, 0, 1, 0);
    }

    private static void whoKnows() {
        SpokenMenus x = new SpokenMenus();
        x.menu(1, 1, 3);
        x.line(0, 100, 1, 1, 1);
        x.line(0, 100, 2, 0, 2);
        x.desk(50, 1);
        x.desk(20, 1);
        x.desk(0, 1);
        d.dueRow("by the line that does not speak of it", Ask.rung(x, 0, 0, 1000, 0, 1), SERVED, 21, 2, 2, 1);
        d.dueRow("who listens", Ask.rung(x, 0, 0, 1000, 0, 0), SERVED, 151, 1, 2, 1);
        SpokenMenus y = new SpokenMenus();
        y.menu(4, 2, 2);
        y.line(0, 3, 1, 1, 1);
        y.desk(50, 1);
        y.desk(1, 1);
        d.dueRow("hears all, to THEN", Ask.rung(y, 0, 0, 1000, 0, 1), SERVED, 15, 2, 2, 0);
        d.due("fewest of that", y.fewest(0, 0, 0, 0), 15);
        SpokenMenus z = new SpokenMenus();
        z.menu(1, 1, -1);
        z.line(0, 1, 1, 0, 1);
        z.clock(8, 18, 2, -1);
        z.leaf(9, 2, 3);
        z.asked(30, 2, 2, 4, 5);
        z.desk(2, 1);
        z.desk(7, 1);
        d.dueRow("through all kinds", Ask.rung(z, 0, 31, 1000, 8, 1), SERVED, 1 + 9 + 2 + 2, 4, 5, 1);
        d.dueRow("with a wrong number", Ask.rung(z, 0, 33, 1000, 8, 1), SERVED, 1 + 9 + 4 + 7, 5, 5, 1);
        d.dueRow("served on the way", Ask.rung(z, 1, 33, 1000, 8, 1), SERVED, 10, 2, 3, 1);
        d.dueRow("not at that hour", Ask.rung(z, 0, 31, 1000, 18, 1), ENDED, 2, 0, 1, 0);
    }

    private static void likeWays() {
        SpokenMenus x = new SpokenMenus();
        x.menu(1, 1, 2);
        x.line(0, 3, 7, 0, 1);
        x.line(0, 3, 5, 0, 2);
        x.desk(2, 1);
        x.desk(2, 1);
        d.dueRow("the lower line", Ask.rung(x, 0, 0, 1000, 0, 1), SERVED, 3, 1, 2, 1);
        d.due("its key", x.pressed(0), 7);
        x.swap(0, 0, 1);
        d.dueRow("the lower line, not the lower place", Ask.rung(x, 0, 0, 1000, 0, 1), SERVED, 3, 2, 2, 1);
        d.due("its key", x.pressed(0), 5);
        SpokenMenus y = new SpokenMenus();
        y.menu(4, 1, 1);
        y.line(0, 2, 3, 0, 2);
        y.desk(0, 1);
        y.desk(5, 1);
        d.dueRow("to THEN last", Ask.rung(y, 0, 0, 1000, 0, 1), SERVED, 6, 2, 2, 1);
        y.change(0, 0, 0, 1);
        d.dueRow("to THEN, as it is less", Ask.rung(y, 0, 0, 1000, 0, 1), SERVED, 5, 1, 2, 0);
    }

    private static void knowingNoWay() {
        SpokenMenus x = new SpokenMenus();
        x.menu(2, 1, 1);
        x.line(0, 6, 3, 1, 1);
        x.asked(10, 3, 2, -1, 2);
        x.desk(1, 2);
        d.dueRow("there is none: as who does not know", Ask.rung(x, 0, 1, 1000, 0, 1), ENDED, 7 + 26 + 1, 2, 3, 1);
        d.dueRow("there is one", Ask.rung(x, 1, 1, 1000, 0, 1), SERVED, 1 + 6 + 1, 2, 3, 1);
        d.dueRow("there is one, beyond the patience", Ask.rung(x, 1, 1, 7, 0, 1), HUNG_UP, 7, 2, 3, 1);
        SpokenMenus y = new SpokenMenus();
        y.menu(2, 1, -1);
        y.line(0, 6, 3, 0, 2);
        y.leaf(1, 0, -1);
        y.desk(1, 1);
        d.dueRow("one from place 0, none from place 1", Ask.rung(y, 0, 0, 100, 0, 1), SERVED, 2, 2, 2, 1);
        SpokenMenus z = new SpokenMenus();
        z.menu(2, 1, -1);
        z.line(0, 6, 3, 1, -1);
        z.desk(1, 1);
        d.dueRow("none from place 0, one from place 1", Ask.rung(z, 0, 0, 100, 0, 1), ENDED, 7, 0, 1, 1);
    }

    private static void latestCall() {
        SpokenMenus x = oneMenu();
        x.ring(0, 0, 1000, 0, 0);
        x.group(5, 2, 0, 1000, 0, 0);
        x.sum(0);
        x.hung(0);
        x.order(0, 0);
        x.fewest(0, 2, 0, 0);
        x.ring(0, 0, 0, 0, 0);
        x.desk(0, 0);
        d.due("ticks of the latest call", x.call(0), 14);
        d.due("its place", x.call(1), 1);
        d.due("its places", x.call(2), 2);
        d.due("its keys", x.call(3), 1);
        d.due("came", x.came(1), 1);
        d.due("came no more", x.came(2), NONE);
        for (int what : new int[] {-1, 4, LOW, HIGH}) {
            d.due("call " + what, x.call(what), BAD);
        }
        x.ring(2, 0, 1000, 0, 0);
        d.due("another call", x.call(0), 75);
        d.due("without a key", x.pressed(0), NONE);
    }

    private static void kept() {
        SpokenMenus x = new SpokenMenus();
        x.menu(1, 1, -1);
        x.line(0, 1, 6, 1, 1);
        x.leaf(1, 0, 0);
        d.dueRow("a long way", Ask.rung(x, 0, 0, 299, 0, 0), HUNG_UP, 299, 1, 200, 100);
        d.due("came 58", x.came(58), 0);
        d.due("came 59", x.came(59), 1);
        d.due("came 60", x.came(60), NONE);
        d.due("came at the most", x.came(HIGH), NONE);
        d.due("pressed 59", x.pressed(59), 6);
        d.due("pressed 60", x.pressed(60), NONE);
        d.due("pressed at the most", x.pressed(HIGH), NONE);
        d.due("came -1", x.came(-1), BAD);
        d.due("pressed -1", x.pressed(-1), BAD);
        d.due("came at the least", x.came(LOW), BAD);
        d.due("pressed at the least", x.pressed(LOW), BAD);
        d.due("none was: pressed -1", new SpokenMenus().pressed(-1), BAD);
        x.ring(0, 0, 1, 0, 0);
        d.due("a short way behind it", x.came(1), NONE);
    }

    private static void fewest() {
        SpokenMenus x = new SpokenMenus();
        d.due("no place", x.fewest(0, 0, 0, 0), BAD);
        x.menu(10, 2, 1);
        x.line(0, 5, 1, 0, 2);
        x.line(0, 5, 2, 0, 3);
        x.desk(400, 1);
        x.leaf(7, 2, 0);
        x.clock(10, 12, 4, 2);
        x.asked(60, 3, 2, 5, 1);
        x.desk(3, 3);
        d.due("by the clock and a right number", x.fewest(0, 0, 130, 11), 1 + 3 + 3);
        d.due("by THEN", x.fewest(0, 0, 131, 12), 40 + 400);
        d.due("by a wrong number", x.fewest(0, 0, 131, 11), 1 + 6 + 400);
        d.due("from the leaf and back", x.fewest(2, 0, 130, 11), 14);
        d.due("at the leaf", x.fewest(2, 1, 130, 11), 7);
        d.due("from the desk", x.fewest(5, 0, 0, 0), 3);
        d.due("from a desk that does not", x.fewest(5, 2, 0, 0), NONE);
        d.due("no way", x.fewest(0, 2, 0, 0), NONE);
        int[][] bad = {
            {-1, 0, 0, 0}, {6, 0, 0, 0}, {40, 0, 0, 0}, {HIGH, 0, 0, 0}, {0, -1, 0, 0}, {0, 16, 0, 0},
            {0, 0, -1, 0}, {0, 0, 100000000, 0}, {0, 0, 0, -1}, {0, 0, 0, 24},
        };
        for (int i = 0; i < bad.length; i++) {
            int[] b = bad[i];
            d.due("BAD fewest " + i, x.fewest(b[0], b[1], b[2], b[3]), BAD);
        }
        SpokenMenus y = new SpokenMenus();
        for (int p = 0; p < 39; p++) {
            y.menu(100, 3, p + 1);
            for (int i = 0; i < 6; i++) {
                y.line(p, 200, i, 0, -1);
            }
        }
        y.desk(500, 1);
        d.due("the longest way", y.fewest(0, 0, 0, 0), 39 * 3900 + 500);
    }

    private static void traps() {
        SpokenMenus x = new SpokenMenus();
        d.due("no place 0", x.trap(0, -1), NO);
        d.due("BAD hour ahead of NO", x.trap(24, -1), BAD);
        d.due("BAD i ahead of NO", x.trap(0, -2), BAD);
        x.menu(1, 1, 1);
        x.line(0, 1, 0, 0, 2);
        x.leaf(1, 65535, 0);
        x.clock(9, 17, 3, 4);
        x.desk(0, 0);
        x.asked(1, 1, 1, 5, 39);
        x.leaf(1, 65535, 4);
        x.leaf(1, 65535, -1);
        d.due("when it is open", x.trap(9, -1), 0);
        d.due("none of them", x.trap(9, 0), NONE);
        d.due("when it is shut", x.trap(17, -1), 5);
        int[] shut = {0, 1, 2, 4, 5};
        for (int i = 0; i < shut.length; i++) {
            d.due("trap " + i, x.trap(17, i), shut[i]);
        }
        d.due("no trap 5", x.trap(17, 5), NONE);
        d.due("no trap at the most", x.trap(17, HIGH), NONE);
        for (int i : new int[] {-2, LOW}) {
            d.due("trap " + i, x.trap(17, i), BAD);
        }
        for (int hour : new int[] {-1, 24, LOW, HIGH}) {
            d.due("trap at " + hour, x.trap(hour, -1), BAD);
        }
        x.line(0, 1, 1, 0, 6);
        d.due("a leaf that ends, when it is open", x.trap(9, -1), 1);
        d.due("that leaf", x.trap(9, 0), 6);
        x.change(0, 1, 2, 3);
        d.due("a key to a desk", x.trap(17, -1), 3);
        d.due("the clock is left", x.trap(17, 0), 2);
        d.due("and asked", x.trap(17, 1), 4);
        d.due("and its leaf", x.trap(17, 2), 5);
    }

    /** The traps at hour 0 of a house in which place 0 asks. */
    private static int[] trapsOfAsked(int right, int wrong) {
        SpokenMenus x = new SpokenMenus();
        x.asked(1, 1, 1, right, wrong);
        x.desk(0, 0);
        x.leaf(1, 0, -1);
        return Ask.trapsOf(x, 0);
    }

    private static void trapsAtAsked() {
        d.dueRow("right leads to a desk", trapsOfAsked(1, 2), 2);
        d.dueRow("wrong leads to a desk", trapsOfAsked(2, 1), 2);
        d.dueRow("both do", trapsOfAsked(1, 1));
        d.dueRow("neither does, and none leads back", trapsOfAsked(2, -1), 0, 2);
        d.dueRow("neither is there", trapsOfAsked(30, -1), 0);
    }

    /** Chains of all 40 places, by numbers upward and downward. */
    private static void longHouses() {
        SpokenMenus up = new SpokenMenus();
        SpokenMenus down = new SpokenMenus();
        down.leaf(1, 0, 39);
        down.desk(1, 1);
        for (int p = 0; p < 39; p++) {
            up.leaf(1, 0, p + 1);
        }
        for (int p = 2; p < 40; p++) {
            down.leaf(1, 0, p - 1);
        }
        up.desk(1, 1);
        d.due("the way upward", up.fewest(0, 0, 0, 0), 40);
        d.due("the way downward", down.fewest(0, 0, 0, 0), 40);
        d.due("no trap upward", up.trap(0, -1), 0);
        d.due("no trap downward", down.trap(0, -1), 0);
        d.dueRow("a call upward", Ask.rung(up, 0, 0, 40, 0, 1), SERVED, 40, 39, 40, 0);
        d.dueRow("a call downward", Ask.rung(down, 0, 0, 40, 0, 0), SERVED, 40, 1, 40, 0);
        SpokenMenus end = new SpokenMenus();
        end.leaf(1, 0, 39);
        end.leaf(1, 0, -1);
        for (int p = 2; p < 40; p++) {
            end.leaf(1, 0, p - 1);
        }
        d.due("all are traps", end.trap(0, -1), 40);
        d.due("the last trap", end.trap(0, 39), 39);
    }
}
