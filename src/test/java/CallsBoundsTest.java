/**
 * Bounds of promises 12 to 17, a test for each sentence of the document that
 * names one. The sentence stands above its test.
 */
public final class CallsBoundsTest {
    private static final int BAD = SpokenMenus.BAD;
    private static final int NO = SpokenMenus.NO;
    private static final int NONE = SpokenMenus.NONE;
    private static final int LOW = Integer.MIN_VALUE;
    private static final int HIGH = Integer.MAX_VALUE;
    private static final int SERVED = 0, ENDED = 1, HUNG_UP = 2, LOST = 3;
    private static final Due d = new Due();

    public static void main(String[] args) {
        ringNumbers();
        ringWithoutPlace0();
        beginsAtPlace0();
        speaksOfEachWish();
        times();
        clockHours();
        hourDoesNotChange();
        numbersBelowTenToTheN();
        sumsOfFigures();
        tries();
        patienceOfEachKind();
        patienceOfAKey();
        keyAtPatience();
        hungUpAheadOfLost();
        leastAndMostPatience();
        lostAtThe41st();
        clocksOnEnd();
        noWay();
        wayOfNoTicks();
        wayBeyondPatience();
        lowerLine();
        thenLast();
        callNumbers();
        callWhereItEnded();
        cameNumbers();
        pressedNumbers();
        latestOnly();
        fewestNumbers();
        fewestLeast();
        trapNumbers();
        trapWithoutPlace0();
        trapsOfPlace0();
        trapsByNumbers();
        trapsByHour();
        trapsAreReached();
        trapsBackThroughPlace0();
        longestChains();
        d.end();
    }

    /** A desk at once, for all wishes. */
    private static SpokenMenus open() {
        return Ask.house(Call.of("desk", 0, 65535));
    }

    /** So many clocks on end, each to the one behind it, the last one to a next place. */
    private static SpokenMenus clocks(int many, int next) {
        SpokenMenus x = new SpokenMenus();
        for (int p = 0; p < many; p++) {
            x.clock(0, 0, p + 1 < many ? p + 1 : next, -1);
        }
        return x;
    }

    /** A menu and a leaf in turn, each of one tick and a key more: came 0, 1, 0, 1, .. */
    private static SpokenMenus roundabout() {
        return Ask.house(Call.of("menu", 1, 1, -1), Call.of("line", 0, 1, 6, 1, 1), Call.of("leaf", 1, 0, 0));
    }

    /** "a WISH, a NUMBER (0 to 99999999), a PATIENCE (1 to 5000 ticks), an HOUR, and KNOWS or does not"; "BAD: also knows not 0, 1". */
    private static void ringNumbers() {
        d.bounds("ring: wish", 0, 15, SERVED, BAD, v -> open().ring(v, 0, 1, 0, 0));
        d.bounds("ring: number", 0, 99999999, SERVED, BAD, v -> open().ring(0, v, 1, 0, 0));
        d.bounds("ring: patience", 1, 5000, SERVED, BAD, v -> open().ring(0, 0, v, 0, 0));
        d.bounds("ring: hour", 0, 23, SERVED, BAD, v -> open().ring(0, 0, 1, v, 0));
        d.bounds("ring: knows", 0, 1, SERVED, BAD, v -> open().ring(0, 0, 1, 0, v));
    }

    /** "NO: there is no PLACE 0."; "Of several the first": BAD stands ahead of NO. */
    private static void ringWithoutPlace0() {
        d.due("who does not know", new SpokenMenus().ring(0, 0, 1, 0, 0), NO);
        d.due("who knows", new SpokenMenus().ring(15, 99999999, 5000, 23, 1), NO);
        d.bounds("ring, empty: wish", 0, 15, NO, BAD, v -> new SpokenMenus().ring(v, 0, 1, 0, 0));
        d.bounds("ring, empty: number", 0, 99999999, NO, BAD, v -> new SpokenMenus().ring(0, v, 1, 0, 0));
        d.bounds("ring, empty: patience", 1, 5000, NO, BAD, v -> new SpokenMenus().ring(0, 0, v, 0, 0));
        d.bounds("ring, empty: hour", 0, 23, NO, BAD, v -> new SpokenMenus().ring(0, 0, 1, v, 0));
        d.bounds("ring, empty: knows", 0, 1, NO, BAD, v -> new SpokenMenus().ring(0, 0, 1, 0, v));
        SpokenMenus x = new SpokenMenus();
        x.ring(0, 0, 1, 0, 0);
        d.due("no call of a refused one", x.call(0), NONE);
        d.due("came nowhere", x.came(0), NONE);
    }

    /** "a call begins at PLACE 0". */
    private static void beginsAtPlace0() {
        SpokenMenus x = Ask.house(Call.of("leaf", 1, 0, 1), Call.of("desk", 1, 1));
        x.ring(0, 0, 100, 0, 0);
        d.due("came first to", x.came(0), 0);
        SpokenMenus y = Ask.house(Call.of("desk", 1, 1), Call.of("desk", 2, 1));
        d.dueRow("the first place, not the last", Ask.rung(y, 0, 0, 100, 0, 0), SERVED, 1, 0, 1, 0);
    }

    /** "WISHES of which it speaks": each of 0 to 15 is a bit of its own. */
    private static void speaksOfEachWish() {
        for (int wish = 0; wish <= 15; wish++) {
            SpokenMenus x = Ask.house(Call.of("menu", 1, 1, -1), Call.of("line", 0, 5, 1, 65535 - (1 << wish), -1),
                Call.of("line", 0, 5, 2, 1 << wish, -1));
            d.dueRow("wish " + wish, Ask.rung(x, wish, 0, 100, 0, 0), ENDED, 11, 0, 1, 1);
            d.due("the second key", x.pressed(0), 2);
            x.ring((wish + 1) % 16, 0, 100, 0, 0);
            d.due("another wish: the first key", x.pressed(0), 1);
        }
    }

    /** "it hears all, then the WAIT; that TIMES times; then it is at THEN." */
    private static void times() {
        for (int times = 1; times <= 3; times++) {
            SpokenMenus x = Ask.house(Call.of("menu", 7, times, 1), Call.of("line", 0, 5, 1, 1, -1), Call.of("desk", 1, 2));
            d.dueRow("heard " + times, Ask.rung(x, 1, 0, 100, 0, 0), SERVED, times * 12 + 1, 1, 2, 0);
            SpokenMenus y = Ask.house(Call.of("menu", 7, times, 1), Call.of("desk", 1, 2));
            d.dueRow("without lines " + times, Ask.rung(y, 1, 0, 100, 0, 0), SERVED, times * 7 + 1, 1, 2, 0);
        }
    }

    /** "OPEN: from f on, ahead of t; if t is below f, from f on or ahead of t; if t is f, always". */
    private static void clockHours() {
        for (int from = 0; from <= 23; from++) {
            for (int to = 0; to <= 23; to++) {
                SpokenMenus x = Ask.house(Call.of("clock", from, to, 1, 2), Call.of("desk", 0, 1), Call.of("desk", 0, 1));
                boolean[] open = new boolean[24];
                int hour = from;
                do {
                    open[hour] = true;
                    hour = (hour + 1) % 24;
                } while (hour != to && hour != from);
                for (int h = 0; h <= 23; h++) {
                    x.ring(0, 0, 1, h, 0);
                    d.due("clock " + from + " to " + to + " at " + h, x.call(1), open[h] || from == to ? 1 : 2);
                }
            }
        }
    }

    /** "in an HOUR 0 to 23 that does not change": however many ticks go by. */
    private static void hourDoesNotChange() {
        SpokenMenus x = Ask.house(Call.of("clock", 23, 0, 1, -1), Call.of("leaf", 200, 0, 2), Call.of("clock", 23, 0, 3, -1),
            Call.of("leaf", 200, 0, 0));
        d.dueRow("hour 23 all the time", Ask.rung(x, 0, 0, 5000, 23, 0), HUNG_UP, 5000, 3, 52, 0);
        d.dueRow("hour 22", Ask.rung(x, 0, 0, 5000, 22, 0), ENDED, 0, 0, 1, 0);
    }

    private static boolean right(int figures, int number) {
        SpokenMenus x = Ask.house(Call.of("asked", 1, figures, 1, 1, 2), Call.of("desk", 0, 1), Call.of("desk", 0, 1));
        x.ring(0, number, 5000, 0, 0);
        return x.call(1) == 1;
    }

    /** "Its NUMBER is RIGHT for FIGURES n, if it is below 10 to the n". */
    private static void numbersBelowTenToTheN() {
        int[] least = {17, 109, 1007, 10009, 100007, 1000009, 10000007};
        for (int n = 1; n <= 8; n++) {
            for (int figures = 1; figures <= 8; figures++) {
                d.holds("the greatest right below 10 to the " + n + " for " + figures,
                    right(figures, greatestRight(n)) == (figures >= n));
            }
        }
        for (int n = 1; n <= 7; n++) {
            d.holds(least[n - 1] + " is not below 10 to the " + n, !right(n, least[n - 1]));
            d.holds(least[n - 1] + " is below 10 to the " + (n + 1), right(n + 1, least[n - 1]));
        }
        d.holds("0 for any figures", right(1, 0) && right(8, 0));
        d.holds("99999999 has the sum 144", !right(8, 99999999));
    }

    /** Nines, and a last figure that makes their sum right. */
    private static int greatestRight(int n) {
        int number = 0;
        int sum = 0;
        for (int i = n - 1; i >= 1; i--) {
            number = number * 10 + 9;
            sum += i % 2 == 0 ? 9 : 27;
        }
        return number * 10 + (10 - sum % 10) % 10;
    }

    /** "the 1st, 3rd, .. from behind once, the 2nd, 4th, .. three times, is divided by 10." */
    private static void sumsOfFigures() {
        int weight = 1;
        int ten = 1;
        for (int at = 1; at <= 8; at++) {
            for (int figure = 0; figure <= 9; figure++) {
                for (int last = 0; last <= 9 && at > 1; last++) {
                    int number = figure * ten + last;
                    d.holds("number " + number, right(8, number) == ((figure * weight + last) % 10 == 0));
                }
            }
            weight = 4 - weight;
            ten *= 10;
        }
        d.holds("a sum of 9", !right(8, 9));
        d.holds("a sum of 10", right(8, 31));
        d.holds("a sum of 11", !right(8, 32));
        d.holds("a sum of 5", !right(8, 5));
        d.holds("a sum of 20", right(8, 62));
    }

    /** "RIGHT: it is at that next PLACE; else again, TRIES in all, then at the other one." */
    private static void tries() {
        for (int tries = 1; tries <= 3; tries++) {
            SpokenMenus x = Ask.house(Call.of("asked", 10, 4, tries, 1, 2), Call.of("desk", 0, 1), Call.of("desk", 0, 1));
            d.dueRow("right, of " + tries, Ask.rung(x, 0, 31, 5000, 0, 0), SERVED, 14, 1, 2, 0);
            d.dueRow("wrong, of " + tries, Ask.rung(x, 0, 32, 5000, 0, 0), SERVED, 14 * tries, 2, 2, 0);
            d.dueRow("right, who knows, of " + tries, Ask.rung(x, 0, 31, 5000, 0, 1), SERVED, 4, 1, 2, 0);
            d.dueRow("wrong, who knows, of " + tries, Ask.rung(x, 0, 32, 5000, 0, 1), SERVED, 4 * tries, 2, 2, 0);
        }
    }

    /** "HUNG UP, at the PLACE at which its ticks are more than its PATIENCE (its ticks are PATIENCE then)"; "HUNG UP ahead of SERVED, ENDED". */
    private static void patienceOfEachKind() {
        SpokenMenus desk = Ask.house(Call.of("desk", 10, 1));
        d.dueRow("desk: as many", Ask.rung(desk, 0, 0, 10, 0, 0), SERVED, 10, 0, 1, 0);
        d.dueRow("desk: one more", Ask.rung(desk, 0, 0, 9, 0, 0), HUNG_UP, 9, 0, 1, 0);
        d.dueRow("desk, ended: as many", Ask.rung(desk, 1, 0, 10, 0, 0), ENDED, 10, 0, 1, 0);
        d.dueRow("desk, ended: one more", Ask.rung(desk, 1, 0, 9, 0, 0), HUNG_UP, 9, 0, 1, 0);
        SpokenMenus leaf = Ask.house(Call.of("leaf", 10, 1, -1));
        d.dueRow("leaf: as many", Ask.rung(leaf, 0, 0, 10, 0, 0), SERVED, 10, 0, 1, 0);
        d.dueRow("leaf: one more", Ask.rung(leaf, 0, 0, 9, 0, 0), HUNG_UP, 9, 0, 1, 0);
        d.dueRow("leaf, to THEN: as many", Ask.rung(leaf, 1, 0, 10, 0, 0), ENDED, 10, 0, 1, 0);
        d.dueRow("leaf, to THEN: one more", Ask.rung(leaf, 1, 0, 9, 0, 0), HUNG_UP, 9, 0, 1, 0);
        SpokenMenus menu = Ask.house(Call.of("menu", 4, 2, -1), Call.of("line", 0, 6, 0, 1, -1));
        d.dueRow("menu, to THEN: as many", Ask.rung(menu, 1, 0, 20, 0, 0), ENDED, 20, 0, 1, 0);
        d.dueRow("menu, to THEN: one more", Ask.rung(menu, 1, 0, 19, 0, 0), HUNG_UP, 19, 0, 1, 0);
        SpokenMenus asked = Ask.house(Call.of("asked", 4, 2, 2, 1, 1), Call.of("desk", 0, 1));
        d.dueRow("asked, right: as many", Ask.rung(asked, 0, 31, 6, 0, 0), SERVED, 6, 1, 2, 0);
        d.dueRow("asked, right: one more", Ask.rung(asked, 0, 31, 5, 0, 0), HUNG_UP, 5, 0, 1, 0);
        d.dueRow("asked, wrong: as many", Ask.rung(asked, 0, 32, 12, 0, 0), SERVED, 12, 1, 2, 0);
        d.dueRow("asked, wrong: one more", Ask.rung(asked, 0, 32, 11, 0, 0), HUNG_UP, 11, 0, 1, 0);
        d.dueRow("asked, who knows: as many", Ask.rung(asked, 0, 32, 4, 0, 1), SERVED, 4, 1, 2, 0);
        d.dueRow("asked, who knows: one more", Ask.rung(asked, 0, 32, 3, 0, 1), HUNG_UP, 3, 0, 1, 0);
        SpokenMenus clock = Ask.house(Call.of("leaf", 3, 0, 1), Call.of("clock", 0, 0, 2, -1), Call.of("desk", 1, 1));
        d.dueRow("no tick at a clock", Ask.rung(clock, 0, 0, 3, 0, 0), HUNG_UP, 3, 2, 3, 0);
    }

    /** "at the end of the first that speaks of its WISH it presses the KEY (1 tick)". */
    private static void patienceOfAKey() {
        SpokenMenus x = Ask.house(Call.of("menu", 1, 1, -1), Call.of("line", 0, 10, 5, 1, 1), Call.of("desk", 0, 1));
        d.dueRow("line and key", Ask.rung(x, 0, 0, 11, 0, 0), SERVED, 11, 1, 2, 1);
        d.dueRow("line, not the key's tick", Ask.rung(x, 0, 0, 10, 0, 0), HUNG_UP, 10, 0, 1, 1);
        d.dueRow("not all of the line", Ask.rung(x, 0, 0, 9, 0, 0), HUNG_UP, 9, 0, 1, 0);
        d.dueRow("who knows", Ask.rung(x, 0, 0, 1, 0, 1), SERVED, 1, 1, 2, 1);
    }

    /** "A KEY is pressed, if not more ticks than PATIENCE were ahead of its own." */
    private static void keyAtPatience() {
        SpokenMenus x = Ask.house(Call.of("leaf", 4, 0, 1), Call.of("menu", 1, 1, -1), Call.of("line", 1, 10, 5, 1, 2),
            Call.of("desk", 0, 1));
        d.dueRow("as many ahead of it", Ask.rung(x, 0, 0, 14, 0, 0), HUNG_UP, 14, 1, 2, 1);
        d.due("the key", x.pressed(0), 5);
        d.dueRow("one more ahead of it", Ask.rung(x, 0, 0, 13, 0, 0), HUNG_UP, 13, 1, 2, 0);
        d.due("no key", x.pressed(0), NONE);
        d.dueRow("who knows: as many ahead of it", Ask.rung(x, 0, 0, 4, 0, 1), HUNG_UP, 4, 1, 2, 1);
        d.due("the key", x.pressed(0), 5);
        d.dueRow("who knows: one more ahead of it", Ask.rung(x, 0, 0, 3, 0, 1), HUNG_UP, 3, 0, 1, 0);
        d.due("no key", x.pressed(0), NONE);
    }

    /** "what takes it beyond PATIENCE comes first": no CLOCK is come to then. */
    private static void hungUpAheadOfLost() {
        SpokenMenus x = Ask.house(Call.of("leaf", 2, 0, 1), Call.of("clock", 0, 0, 1, -1));
        d.dueRow("hung up ahead of the clocks", Ask.rung(x, 0, 0, 1, 0, 0), HUNG_UP, 1, 0, 1, 0);
        d.dueRow("lost with all its ticks", Ask.rung(x, 0, 0, 2, 0, 0), LOST, 2, 1, 42, 0);
    }

    /** "a PATIENCE (1 to 5000 ticks)". */
    private static void leastAndMostPatience() {
        SpokenMenus x = Ask.house(Call.of("leaf", 1, 0, 0));
        d.dueRow("patience 1", Ask.rung(x, 0, 0, 1, 0, 0), HUNG_UP, 1, 0, 2, 0);
        d.dueRow("patience 5000", Ask.rung(x, 0, 0, 5000, 0, 0), HUNG_UP, 5000, 0, 5001, 0);
        SpokenMenus long39 = new SpokenMenus();
        for (int p = 0; p < 39; p++) {
            long39.clock(0, 0, p + 1, -1);
        }
        long39.leaf(1, 0, 0);
        d.dueRow("39 clocks for each tick", Ask.rung(long39, 0, 0, 5000, 0, 0), HUNG_UP, 5000, 39, 40 * 5001, 0);
    }

    /** "LOST: at a CLOCK for the 41st time on end." */
    private static void lostAtThe41st() {
        d.dueRow("40 clocks, then none", Ask.rung(clocks(40, -1), 0, 0, 1, 0, 0), ENDED, 0, 39, 40, 0);
        d.dueRow("40 clocks, then the first", Ask.rung(clocks(40, 0), 0, 0, 1, 0, 0), LOST, 0, 0, 41, 0);
        d.dueRow("40 clocks, then the last again", Ask.rung(clocks(40, 39), 0, 0, 1, 0, 0), LOST, 0, 39, 41, 0);
        d.dueRow("39 clocks, then a place that is not there", Ask.rung(clocks(39, 39), 0, 0, 1, 0, 0), ENDED, 0, 38, 39, 0);
        d.dueRow("one clock", Ask.rung(clocks(1, 0), 0, 0, 1, 0, 0), LOST, 0, 0, 41, 0);
        d.dueRow("two clocks", Ask.rung(clocks(2, 0), 0, 0, 1, 0, 0), LOST, 0, 0, 41, 0);
        d.dueRow("who knows no way", Ask.rung(clocks(2, 0), 0, 0, 1, 0, 1), LOST, 0, 0, 41, 0);
        SpokenMenus again = clocks(40, 0);
        again.ring(0, 0, 1, 0, 0);
        d.dueRow("a call behind one that was lost", Ask.rung(again, 0, 0, 1, 0, 0), LOST, 0, 0, 41, 0);
        SpokenMenus x = clocks(39, 39);
        x.desk(0, 1);
        d.dueRow("39 clocks, then a desk", Ask.rung(x, 0, 0, 1, 0, 0), SERVED, 0, 39, 40, 0);
        d.dueRow("who knows, by 39 clocks", Ask.rung(x, 0, 0, 1, 0, 1), SERVED, 0, 39, 40, 0);
    }

    /** "on end": another PLACE between clocks begins anew. */
    private static void clocksOnEnd() {
        SpokenMenus leaf = Ask.house(Call.of("clock", 0, 0, 1, -1), Call.of("leaf", 200, 0, 0));
        d.dueRow("a leaf between", Ask.rung(leaf, 0, 0, 5000, 0, 0), HUNG_UP, 5000, 1, 52, 0);
        SpokenMenus menu = Ask.house(Call.of("clock", 0, 0, 1, -1), Call.of("menu", 100, 1, 0));
        d.dueRow("a menu between", Ask.rung(menu, 0, 0, 5000, 0, 0), HUNG_UP, 5000, 1, 102, 0);
        SpokenMenus asked = Ask.house(Call.of("clock", 0, 0, 1, -1), Call.of("asked", 99, 1, 1, 0, 0));
        d.dueRow("asked between", Ask.rung(asked, 0, 0, 5000, 0, 0), HUNG_UP, 5000, 1, 102, 0);
        SpokenMenus x = Ask.house(Call.of("clock", 0, 0, 1, -1), Call.of("leaf", 1, 0, 2), Call.of("clock", 0, 0, 2, -1));
        d.dueRow("one clock, a leaf, then 41", Ask.rung(x, 0, 0, 1, 0, 0), LOST, 1, 2, 43, 0);
    }

    /** "if there is none, as who does not know." */
    private static void noWay() {
        SpokenMenus x = Ask.house(Call.of("menu", 2, 2, 1), Call.of("line", 0, 6, 3, 1, 1), Call.of("asked", 10, 3, 2, -1, 2),
            Call.of("desk", 1, 2));
        d.dueRow("none, by a line", Ask.rung(x, 0, 1, 1000, 0, 1), ENDED, 7 + 26 + 1, 2, 3, 1);
        d.dueRow("none, by THEN", Ask.rung(x, 2, 1, 1000, 0, 1), ENDED, 16 + 26 + 1, 2, 3, 0);
        d.dueRow("none, as the number is right", Ask.rung(x, 1, 130, 1000, 0, 1), ENDED, 16 + 13, 1, 2, 0);
        d.dueRow("one", Ask.rung(x, 1, 1, 1000, 0, 1), SERVED, 1 + 6 + 1, 2, 3, 1);
        SpokenMenus y = Ask.house(Call.of("menu", 2, 1, -1), Call.of("line", 0, 6, 3, 1, -1), Call.of("desk", 1, 1));
        d.dueRow("none from place 0, one from place 1", Ask.rung(y, 0, 0, 100, 0, 1), ENDED, 7, 0, 1, 1);
        y.change(0, 0, 2, 2);
        y.desk(3, 2);
        d.dueRow("one from place 0, none from place 1", Ask.rung(y, 1, 0, 100, 0, 1), SERVED, 4, 2, 2, 1);
    }

    /** "the way by which it is SERVED in fewest ticks": none at all may be needed. */
    private static void wayOfNoTicks() {
        d.dueRow("a desk at once", Ask.rung(open(), 15, 0, 1, 0, 1), SERVED, 0, 0, 1, 0);
        SpokenMenus x = Ask.house(Call.of("clock", 1, 2, -1, 1), Call.of("desk", 0, 1));
        d.dueRow("by a clock", Ask.rung(x, 0, 0, 1, 0, 1), SERVED, 0, 1, 2, 0);
    }

    /** A way of more ticks than PATIENCE is a way: it is gone, and hung up on. */
    private static void wayBeyondPatience() {
        SpokenMenus x = Ask.house(Call.of("menu", 2, 1, -1), Call.of("line", 0, 50, 3, 1, -1), Call.of("line", 0, 50, 4, 0, 1),
            Call.of("desk", 9, 1));
        d.dueRow("just served", Ask.rung(x, 0, 0, 10, 0, 1), SERVED, 10, 1, 2, 1);
        d.dueRow("hung up at the desk", Ask.rung(x, 0, 0, 9, 0, 1), HUNG_UP, 9, 1, 2, 1);
        d.due("by the second key", x.pressed(0), 4);
    }

    /** "of several that which at the first PLACE where they part has the lower LINE". */
    private static void lowerLine() {
        SpokenMenus x = Ask.house(Call.of("menu", 1, 1, -1), Call.of("menu", 1, 1, -1), Call.of("desk", 4, 1), Call.of("desk", 4, 1),
            Call.of("desk", 5, 1));
        x.line(0, 1, 9, 0, 4);
        x.line(0, 1, 8, 0, 1);
        x.line(1, 1, 7, 0, 3);
        x.line(1, 1, 6, 0, 2);
        d.dueRow("like ways: the lower line of the first menu", Ask.rung(x, 0, 0, 100, 0, 1), SERVED, 6, 4, 2, 1);
        d.due("its key", x.pressed(0), 9);
        x.swap(0, 0, 1);
        d.dueRow("then by the second menu", Ask.rung(x, 0, 0, 100, 0, 1), SERVED, 6, 3, 3, 2);
        d.due("its lower line, though not the lower place", x.pressed(1), 7);
        SpokenMenus y = Ask.house(Call.of("menu", 1, 1, -1), Call.of("desk", 0, 1));
        for (int i = 0; i < 6; i++) {
            y.line(0, 1, 11 - i, 0, i == 5 ? 1 : -1);
        }
        d.dueRow("the last of six lines", Ask.rung(y, 0, 0, 100, 0, 1), SERVED, 1, 1, 2, 1);
        d.due("its key", y.pressed(0), 6);
        y.change(0, 0, 2, 1);
        y.ring(0, 0, 100, 0, 1);
        d.due("the first of six lines", y.pressed(0), 11);
    }

    /** "to THEN last". */
    private static void thenLast() {
        SpokenMenus x = Ask.house(Call.of("menu", 4, 1, 1), Call.of("line", 0, 2, 3, 0, 2), Call.of("desk", 0, 1), Call.of("desk", 5, 1));
        d.dueRow("6 by a key, 6 by THEN", Ask.rung(x, 0, 0, 100, 0, 1), SERVED, 6, 2, 2, 1);
        x.change(0, 0, 0, 1);
        d.dueRow("6 by a key, 5 by THEN", Ask.rung(x, 0, 0, 100, 0, 1), SERVED, 5, 1, 2, 0);
        SpokenMenus y = Ask.house(Call.of("menu", 1, 1, 1), Call.of("desk", 0, 1));
        d.dueRow("without lines, by THEN", Ask.rung(y, 0, 0, 100, 0, 1), SERVED, 1, 1, 2, 0);
    }

    /** "Of the latest call: 0 its ticks, 1 the PLACE .., 2 how many PLACES .., 3 KEYS pressed. NONE: none was; BAD." */
    private static void callNumbers() {
        for (int what = 0; what <= 3; what++) {
            d.due("none was: " + what, new SpokenMenus().call(what), NONE);
        }
        for (int what : new int[] {-1, 4, LOW, HIGH}) {
            d.due("none was, BAD: " + what, new SpokenMenus().call(what), BAD);
            SpokenMenus x = open();
            x.ring(0, 0, 1, 0, 0);
            d.due("one was, BAD: " + what, x.call(what), BAD);
        }
        d.due("places, but no call", open().call(0), NONE);
    }

    /** "the PLACE where it ended (one that is not there: the last one that is)". */
    private static void callWhereItEnded() {
        for (int next : new int[] {-1, 2, 39}) {
            SpokenMenus x = Ask.house(Call.of("leaf", 1, 0, 1), Call.of("clock", 0, 0, next, -1));
            d.dueRow("to " + next, Ask.rung(x, 0, 0, 100, 0, 0), ENDED, 1, 1, 2, 0);
            d.due("came to the last one that is", x.came(1), 1);
            d.due("and to no more", x.came(2), NONE);
        }
    }

    /** "The i-th PLACE (from 0; the first 60 are kept) of the latest call. NONE; BAD: i below 0." */
    private static void cameNumbers() {
        d.due("none was", new SpokenMenus().came(0), NONE);
        d.due("none was, 60", new SpokenMenus().came(60), NONE);
        d.due("none was, -1", new SpokenMenus().came(-1), BAD);
        for (int places : new int[] {1, 2, 59, 60, 61, 62}) {
            SpokenMenus x = roundabout();
            x.ring(0, 0, Math.max(1, places % 2 == 0 ? places / 2 * 3 - 1 : places / 2 * 3), 0, 0);
            d.due("places of a call to " + places, x.call(2), places);
            for (int i = 0; i < 64; i++) {
                d.due("came " + i + " of " + places, x.came(i), i < places && i < 60 ? i % 2 : NONE);
            }
            d.due("came at the most", x.came(HIGH), NONE);
            d.due("came -1", x.came(-1), BAD);
            d.due("came at the least", x.came(LOW), BAD);
        }
    }

    /** "The i-th KEY that it pressed (likewise)." */
    private static void pressedNumbers() {
        d.due("none was", new SpokenMenus().pressed(0), NONE);
        d.due("none was, -1", new SpokenMenus().pressed(-1), BAD);
        d.due("no key of a call", pressedAfter(open(), 1, 0), NONE);
        for (int keys : new int[] {1, 2, 59, 60, 61, 62}) {
            SpokenMenus x = Ask.house(Call.of("menu", 1, 1, -1), Call.of("menu", 1, 1, -1));
            x.line(0, 1, 11, 1, 1);
            x.line(1, 1, 0, 1, 0);
            x.ring(0, 0, keys * 2, 0, 0);
            d.due("keys pressed", x.call(3), keys);
            for (int i = 0; i < 64; i++) {
                d.due("pressed " + i + " of " + keys, x.pressed(i), i < keys && i < 60 ? (i % 2 == 0 ? 11 : 0) : NONE);
            }
            d.due("pressed at the most", x.pressed(HIGH), NONE);
            d.due("pressed -1", x.pressed(-1), BAD);
            d.due("pressed at the least", x.pressed(LOW), BAD);
        }
    }

    private static int pressedAfter(SpokenMenus x, int patience, int i) {
        x.ring(0, 0, patience, 0, 0);
        return x.pressed(i);
    }

    /** "of the latest call": a shorter one leaves nothing of a longer one. */
    private static void latestOnly() {
        SpokenMenus x = roundabout();
        x.ring(0, 0, 5000, 0, 0);
        d.due("a long call", x.came(59), 1);
        x.ring(1, 0, 5000, 0, 0);
        d.due("a short call", x.came(0), 0);
        for (int i = 1; i < 60; i++) {
            d.due("nothing of the long one at " + i, x.came(i), NONE);
            d.due("no key of the long one at " + i, x.pressed(i - 1), NONE);
        }
        d.dueRow("its own", new int[] {x.call(0), x.call(1), x.call(2), x.call(3)}, 2, 0, 1, 0);
    }

    /** "The fewest ticks in which who KNOWS is SERVED from a PLACE on; NONE: there is no way. BAD." */
    private static void fewestNumbers() {
        d.bounds("fewest: place", 0, 0, 0, BAD, v -> open().fewest(v, 0, 0, 0));
        d.bounds("fewest: wish", 0, 15, 0, BAD, v -> open().fewest(0, v, 0, 0));
        d.bounds("fewest: number", 0, 99999999, 0, BAD, v -> open().fewest(0, 0, v, 0));
        d.bounds("fewest: hour", 0, 23, 0, BAD, v -> open().fewest(0, 0, 0, v));
        d.due("an empty house", new SpokenMenus().fewest(0, 0, 0, 0), BAD);
        d.bounds("fewest: place of 40", 0, 39, NONE, BAD, v -> clocks(40, -1).fewest(v, 0, 0, 0));
        d.due("BAD ahead of NONE", clocks(1, -1).fewest(0, 16, 0, 0), BAD);
    }

    /** No ticks at the least, 39 of the longest MENUS and a DESK at the most. */
    private static void fewestLeast() {
        d.due("no ticks", open().fewest(0, 15, 0, 23), 0);
        d.due("no way to a place that is not there", Ask.house(Call.of("leaf", 1, 0, 1)).fewest(0, 0, 0, 0), NONE);
        d.due("no way in a ring", Ask.house(Call.of("leaf", 1, 0, 0)).fewest(0, 0, 0, 0), NONE);
        d.due("no way in a ring of clocks", clocks(40, 0).fewest(39, 0, 0, 0), NONE);
        SpokenMenus x = new SpokenMenus();
        for (int p = 0; p < 39; p++) {
            x.menu(100, 3, p + 1);
            for (int i = 0; i < 6; i++) {
                x.line(p, 200, i, 65535, p);
            }
        }
        x.desk(500, 1 << 15);
        d.due("the longest way", x.fewest(0, 15, 0, 0), 39 * 3900 + 500);
        d.due("from the last menu", x.fewest(38, 15, 0, 0), 4400);
        d.dueRow("too long for any patience", Ask.rung(x, 15, 0, 5000, 0, 1), HUNG_UP, 5000, 1, 2, 0);
    }

    /** "i = -1: how many TRAPS there are at an HOUR; else the i-th of them, by numbers (NONE). BAD". */
    private static void trapNumbers() {
        d.bounds("trap: hour", 0, 23, 1, BAD, v -> clocks(1, -1).trap(v, -1));
        d.due("how many", clocks(40, -1).trap(0, -1), 40);
        d.due("the first", clocks(40, -1).trap(0, 0), 0);
        d.due("the last", clocks(40, -1).trap(0, 39), 39);
        d.due("none behind the last", clocks(40, -1).trap(0, 40), NONE);
        d.due("none at the most", clocks(40, -1).trap(0, HIGH), NONE);
        d.due("i -2", clocks(40, -1).trap(0, -2), BAD);
        d.due("i at the least", clocks(40, -1).trap(0, LOW), BAD);
        d.due("no traps", open().trap(0, -1), 0);
        d.due("none of no traps", open().trap(0, 0), NONE);
        d.due("a BAD i of no traps", open().trap(0, -2), BAD);
        d.due("BAD ahead of NONE", open().trap(24, 0), BAD);
    }

    /** "NO: there is no PLACE 0."; "Of several the first": BAD stands ahead of NO. */
    private static void trapWithoutPlace0() {
        d.bounds("trap, empty: hour", 0, 23, NO, BAD, v -> new SpokenMenus().trap(v, -1));
        d.due("none of an empty house", new SpokenMenus().trap(0, 0), NO);
        d.due("at the most", new SpokenMenus().trap(0, HIGH), NO);
        d.due("i -2", new SpokenMenus().trap(0, -2), BAD);
    }

    /** PLACE 0 itself is one, if it leads to no DESK; a DESK is none, whatever it serves. */
    private static void trapsOfPlace0() {
        d.due("a desk alone", Ask.house(Call.of("desk", 0, 0)).trap(0, -1), 0);
        d.due("a leaf alone, though it serves", Ask.house(Call.of("leaf", 1, 65535, -1)).trap(0, 0), 0);
        d.due("a menu without lines", Ask.house(Call.of("menu", 1, 1, -1)).trap(0, -1), 1);
        d.due("a leaf to itself", Ask.house(Call.of("leaf", 1, 0, 0)).trap(0, -1), 1);
        d.due("a leaf that serves, to a desk", Ask.house(Call.of("leaf", 1, 65535, 1), Call.of("desk", 0, 0)).trap(0, -1), 0);
        d.due("a desk that is not there yet", Ask.house(Call.of("leaf", 1, 0, 1)).trap(0, -1), 1);
    }

    /** "the i-th of them, by numbers": not as they are reached. */
    private static void trapsByNumbers() {
        SpokenMenus x = Ask.house(Call.of("menu", 1, 1, 4), Call.of("leaf", 1, 0, -1), Call.of("desk", 0, 0),
            Call.of("leaf", 1, 0, 1), Call.of("leaf", 1, 0, 3), Call.of("line", 0, 1, 0, 0, 2));
        d.dueRow("4 leads to 3, 3 to 1", Ask.trapsOf(x, 0), 1, 3, 4);
        SpokenMenus y = Ask.house(Call.of("menu", 1, 1, -1), Call.of("desk", 0, 0), Call.of("leaf", 1, 0, -1));
        for (int i = 0; i < 6; i++) {
            y.line(0, 1, i, 0, i == 5 ? 1 : 2);
        }
        d.dueRow("the sixth key leads to a desk", Ask.trapsOf(y, 0), 2);
        y.change(0, 5, 2, 2);
        d.dueRow("it does not", Ask.trapsOf(y, 0), 0, 2);
    }

    /** "what CLOCKS tell": by the HOUR, its bounds as those of calls. */
    private static void trapsByHour() {
        SpokenMenus x = Ask.house(Call.of("clock", 22, 6, 1, 2), Call.of("desk", 0, 0), Call.of("leaf", 1, 0, -1));
        for (int hour = 0; hour <= 23; hour++) {
            d.due("traps at " + hour, x.trap(hour, -1), hour >= 22 || hour < 6 ? 0 : 2);
        }
        SpokenMenus y = Ask.house(Call.of("clock", 9, 9, 1, 2), Call.of("desk", 0, 0), Call.of("leaf", 1, 0, -1));
        for (int hour = 0; hour <= 23; hour++) {
            d.due("always open, at " + hour, y.trap(hour, -1), 0);
        }
    }

    /** "a PLACE to which PLACE 0 leads (by any KEYS, THEN, either next PLACE of ASKED ..)". */
    private static void trapsAreReached() {
        SpokenMenus x = Ask.house(Call.of("desk", 0, 0), Call.of("leaf", 1, 0, -1));
        d.due("a leaf to which nothing leads", x.trap(0, -1), 0);
        SpokenMenus y = Ask.house(Call.of("desk", 0, 0), Call.of("leaf", 1, 0, 2), Call.of("leaf", 1, 0, -1));
        d.due("a leaf to which only such a leaf leads", y.trap(0, -1), 0);
        Call[] first = {
            Call.of("menu", 1, 1, 2), Call.of("leaf", 1, 0, 2), Call.of("clock", 0, 0, 2, 1), Call.of("clock", 1, 2, 1, 2),
            Call.of("asked", 1, 1, 1, 2, -1), Call.of("asked", 1, 1, 1, -1, 2),
        };
        for (Call call : first) {
            d.dueRow(call + " leads to a leaf", Ask.trapsOf(Ask.house(call, Call.of("desk", 0, 0), Call.of("leaf", 1, 0, -1)), 0), 0, 2);
        }
        for (Call call : first) {
            d.dueRow(call + " leads to a desk", Ask.trapsOf(Ask.house(call, Call.of("leaf", 1, 0, -1), Call.of("desk", 0, 0)), 0));
        }
    }

    /** "from which none leads so to a DESK": the way may go back through PLACE 0. */
    private static void trapsBackThroughPlace0() {
        SpokenMenus x = Ask.house(Call.of("menu", 1, 1, 1), Call.of("line", 0, 1, 0, 0, 2), Call.of("leaf", 1, 0, 0),
            Call.of("desk", 0, 0));
        d.dueRow("a leaf that leads back", Ask.trapsOf(x, 0));
        x.change(0, 0, 2, -1);
        d.dueRow("back to where no desk is", Ask.trapsOf(x, 0), 0, 1);
    }

    /** All 40 PLACES in a chain: 0, 1, .. 39. */
    private static SpokenMenus chainUp(Call last) {
        SpokenMenus x = new SpokenMenus();
        for (int p = 0; p < 39; p++) {
            x.leaf(1, 0, p + 1);
        }
        last.on(x);
        return x;
    }

    /** All 40 PLACES in a chain: 0, 39, 38, .. 1. */
    private static SpokenMenus chainDown(Call last) {
        SpokenMenus x = new SpokenMenus();
        x.leaf(1, 0, 39);
        last.on(x);
        for (int p = 2; p < 40; p++) {
            x.leaf(1, 0, p - 1);
        }
        return x;
    }

    /** "40 at most": a way, and what leads to a DESK, may need them all, whatever their numbers. */
    private static void longestChains() {
        Call desk = Call.of("desk", 1, 1);
        d.due("the longest chain upward", chainUp(desk).fewest(0, 0, 0, 0), 40);
        d.due("the longest chain downward", chainDown(desk).fewest(0, 0, 0, 0), 40);
        d.dueRow("who knows, upward", Ask.rung(chainUp(desk), 0, 0, 40, 0, 1), SERVED, 40, 39, 40, 0);
        d.dueRow("who knows, downward", Ask.rung(chainDown(desk), 0, 0, 40, 0, 1), SERVED, 40, 1, 40, 0);
        d.due("no traps upward", chainUp(desk).trap(0, -1), 0);
        d.due("no traps downward", chainDown(desk).trap(0, -1), 0);
        Call leaf = Call.of("leaf", 1, 0, -1);
        d.due("all are traps upward", chainUp(leaf).trap(0, -1), 40);
        d.due("all are traps downward", chainDown(leaf).trap(0, -1), 40);
    }
}
