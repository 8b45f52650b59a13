/**
 * Bounds of promises 18 to 23, a test for each sentence of the document that
 * names one. The sentence stands above its test.
 */
public final class GroupsBoundsTest {
    private static final int BAD = SpokenMenus.BAD;
    private static final int NO = SpokenMenus.NO;
    private static final int FULL = SpokenMenus.FULL;
    private static final int NONE = SpokenMenus.NONE;
    private static final int LOW = Integer.MIN_VALUE;
    private static final int HIGH = Integer.MAX_VALUE;
    private static final Due d = new Due();

    public static void main(String[] args) {
        groupNumbers();
        mostGroups();
        groupsOfAnEmptyHouse();
        groupsGo();
        sumNumbers();
        sumWithoutPlace0();
        sumWithoutGroups();
        leastAndGreatestSum();
        sumOfEachEnd();
        hungNumbers();
        hungWithoutGroups();
        hungAtPatience();
        orderNumbers();
        orderOfOtherKinds();
        orderWithoutLines();
        orderWithoutGroups();
        orderOfOneLine();
        orderOfSixLines();
        greatestOrder();
        whoComes();
        whoDoesNotKnow();
        firstComing();
        firstLineThatSpeaks();
        likeOnes();
        arrangeNumbers();
        arrangeWithoutLines();
        arrangeWithoutGroups();
        arrangeSixLines();
        d.end();
    }

    /** A menu of six lines at place 0, a line for each wish 0 to 5 to a desk; 10 ticks each. */
    private static SpokenMenus sixLines() {
        SpokenMenus x = new SpokenMenus();
        x.menu(1, 1, -1);
        for (int i = 0; i < 6; i++) {
            x.line(0, 10, 11 - i, 1 << i, 1);
        }
        x.desk(0, 65535);
        return x;
    }

    private static SpokenMenus groups(int many) {
        SpokenMenus x = new SpokenMenus();
        for (int g = 0; g < many; g++) {
            x.group(1 + g, 0, 0, 1, 0, 0);
        }
        return x;
    }

    /** "each of so many alike (1 to 1000)", and the numbers of a CALLER; "BAD". */
    private static void groupNumbers() {
        d.bounds("group: many", 1, 1000, 1, BAD, v -> new SpokenMenus().group(v, 0, 0, 1, 0, 0));
        d.bounds("group: wish", 0, 15, 1, BAD, v -> new SpokenMenus().group(1, v, 0, 1, 0, 0));
        d.bounds("group: number", 0, 99999999, 1, BAD, v -> new SpokenMenus().group(1, 0, v, 1, 0, 0));
        d.bounds("group: patience", 1, 5000, 1, BAD, v -> new SpokenMenus().group(1, 0, 0, v, 0, 0));
        d.bounds("group: hour", 0, 23, 1, BAD, v -> new SpokenMenus().group(1, 0, 0, 1, v, 0));
        d.bounds("group: knows", 0, 1, 1, BAD, v -> new SpokenMenus().group(1, 0, 0, 1, 0, v));
    }

    /** "GROUPS of CALLERS, 12 at most"; "how many GROUPS. BAD; FULL."; BAD stands ahead of FULL. */
    private static void mostGroups() {
        SpokenMenus x = new SpokenMenus();
        for (int g = 1; g <= 12; g++) {
            d.due("group " + g, x.group(1000, 0, 0, 1, 0, 0), g);
        }
        d.due("a 13th", x.group(1, 0, 0, 1, 0, 0), FULL);
        d.due("a 14th", x.group(1000, 15, 99999999, 5000, 23, 1), FULL);
        d.due("12 groups", x.count(1), 12);
        d.due("12000 callers", x.count(2), 12000);
        d.due("BAD ahead of FULL: many", x.group(1001, 0, 0, 1, 0, 0), BAD);
        d.due("BAD ahead of FULL: wish", x.group(1, 16, 0, 1, 0, 0), BAD);
        d.due("BAD ahead of FULL: number", x.group(1, 0, -1, 1, 0, 0), BAD);
        d.due("BAD ahead of FULL: patience", x.group(1, 0, 0, 0, 0, 0), BAD);
        d.due("BAD ahead of FULL: hour", x.group(1, 0, 0, 1, 24, 0), BAD);
        d.due("BAD ahead of FULL: knows", x.group(1, 0, 0, 1, 0, 2), BAD);
    }

    /** A GROUP needs no PLACE: only what asks for calls does. */
    private static void groupsOfAnEmptyHouse() {
        SpokenMenus x = groups(12);
        d.due("groups", x.count(1), 12);
        d.due("callers", x.count(2), 78);
        d.due("no sum", x.sum(0), NO);
        d.due("no place to hang up at", x.hung(0), BAD);
        x.desk(0, 1);
        d.dueRow("by the first place", Ask.sums(x), 0, 78, 0, 0, 0);
    }

    /** "GROUPS go: how many there were." */
    private static void groupsGo() {
        for (int many : new int[] {0, 1, 12}) {
            SpokenMenus x = groups(many);
            d.due("there were", x.noGroups(), many);
            d.due("no groups", x.count(1), 0);
            d.due("no callers", x.count(2), 0);
            d.due("there were none then", x.noGroups(), 0);
            for (int g = 1; g <= 12; g++) {
                d.due("group " + g + " anew", x.group(1, 0, 0, 1, 0, 0), g);
            }
            d.due("full anew", x.group(1, 0, 0, 1, 0, 0), FULL);
            d.due("none of the callers that went", x.count(2), 12);
        }
    }

    /** "Of THE SUM: 0 ticks, 1 SERVED, 2 ENDED, 3 HUNG UP, 4 LOST. BAD". */
    private static void sumNumbers() {
        d.bounds("sum: what", 0, 4, 0, BAD, v -> sixLines().sum(v));
    }

    /** "NO: there is no PLACE 0."; "Of several the first": BAD stands ahead of NO. */
    private static void sumWithoutPlace0() {
        d.bounds("sum, empty: what", 0, 4, NO, BAD, v -> new SpokenMenus().sum(v));
        d.bounds("sum, empty but for groups: what", 0, 4, NO, BAD, v -> groups(12).sum(v));
    }

    /** No GROUPS: nothing is summed, also behind those that went. */
    private static void sumWithoutGroups() {
        SpokenMenus x = sixLines();
        d.dueRow("no groups", Ask.sums(x), 0, 0, 0, 0, 0);
        x.group(5, 0, 0, 100, 0, 0);
        d.dueRow("one group", Ask.sums(x), 55, 5, 0, 0, 0);
        x.noGroups();
        d.dueRow("no groups again", Ask.sums(x), 0, 0, 0, 0, 0);
    }

    /** "THE SUM is of all, each as told". */
    private static void leastAndGreatestSum() {
        SpokenMenus x = new SpokenMenus();
        x.leaf(1, 0, 0);
        x.group(1, 0, 0, 1, 0, 0);
        d.dueRow("the least", Ask.sums(x), 1, 0, 0, 1, 0);
        x.noGroups();
        for (int g = 0; g < 12; g++) {
            x.group(1000, 15, 99999999, 5000, 23, g % 2);
        }
        d.dueRow("the greatest", Ask.sums(x), 60000000, 0, 0, 12000, 0);
        d.due("all at the leaf", x.hung(0), 12000);
    }

    /** "SERVED, ENDED, HUNG UP, LOST": a CALLER is in one of them. */
    private static void sumOfEachEnd() {
        SpokenMenus x = new SpokenMenus();
        x.menu(1, 1, 2);
        x.line(0, 10, 0, 1, 1);
        x.desk(9, 1);
        x.clock(12, 13, 2, -1);
        x.group(1, 0, 0, 20, 0, 0);
        x.group(10, 0, 0, 19, 0, 0);
        x.group(100, 1, 0, 11, 12, 0);
        x.group(1000, 1, 0, 11, 13, 0);
        d.dueRow("one of each", Ask.sums(x), 20 + 190 + 1100 + 11000, 1, 1000, 10, 100);
    }

    /** "How many CALLERS of all GROUPS hang up at a PLACE. BAD." */
    private static void hungNumbers() {
        d.bounds("hung: place", 0, 1, 0, BAD, v -> sixLines().hung(v));
        d.due("an empty house", new SpokenMenus().hung(0), BAD);
        SpokenMenus x = new SpokenMenus();
        for (int p = 0; p < 40; p++) {
            x.leaf(100, 0, p + 1 < 40 ? p + 1 : -1);
        }
        x.group(3, 0, 0, 3999, 0, 0);
        x.group(4, 0, 0, 99, 0, 0);
        x.group(5, 0, 0, 4000, 0, 0);
        d.due("at the first place", x.hung(0), 4);
        d.due("at the last place", x.hung(39), 3);
        d.due("at one between", x.hung(1), 0);
        d.due("at place 40", x.hung(40), BAD);
    }

    /** No GROUPS: none hang up. */
    private static void hungWithoutGroups() {
        SpokenMenus x = sixLines();
        d.due("at the menu", x.hung(0), 0);
        x.ring(0, 0, 1, 0, 0);
        d.due("a call of ring is of no group", x.hung(0), 0);
    }

    /** "HUNG UP, at the PLACE at which its ticks are more than its PATIENCE". */
    private static void hungAtPatience() {
        SpokenMenus x = new SpokenMenus();
        x.leaf(10, 0, 1);
        x.desk(10, 1);
        x.group(1, 0, 0, 9, 0, 0);
        x.group(10, 0, 0, 10, 0, 0);
        x.group(100, 0, 0, 19, 0, 0);
        x.group(1000, 0, 0, 20, 0, 0);
        d.due("at the leaf", x.hung(0), 1);
        d.due("at the desk", x.hung(1), 110);
    }

    /** "i = -1: Sum ..; -2: in the best order; else which LINE .. BAD: also not a MENU; NONE: it has no such LINE." */
    private static void orderNumbers() {
        d.due("i -1", sixLines().order(0, -1), 0);
        d.due("i -2", sixLines().order(0, -2), 0);
        d.due("i -3", sixLines().order(0, -3), BAD);
        d.due("i at the least", sixLines().order(0, LOW), BAD);
        d.due("i 0", sixLines().order(0, 0), 0);
        d.due("i 5", sixLines().order(0, 5), 5);
        d.due("i 6", sixLines().order(0, 6), NONE);
        d.due("i at the most", sixLines().order(0, HIGH), NONE);
        SpokenMenus x = new SpokenMenus();
        x.menu(1, 1, -1);
        x.line(0, 1, 0, 0, -1);
        x.line(0, 1, 1, 0, -1);
        d.due("the last of two", x.order(0, 1), 1);
        d.due("none behind the last of two", x.order(0, 2), NONE);
    }

    /** A desk, a leaf, a clock and asked, behind a menu. */
    private static SpokenMenus otherKinds() {
        SpokenMenus x = new SpokenMenus();
        x.menu(1, 1, -1);
        x.desk(0, 0);
        x.leaf(1, 0, -1);
        x.clock(0, 0, -1, -1);
        x.asked(1, 1, 1, -1, -1);
        return x;
    }

    /** "BAD: also not a MENU", ahead of NONE. */
    private static void orderOfOtherKinds() {
        for (int i : new int[] {-2, -1, 0, 6}) {
            for (int place : new int[] {LOW, -1, 1, 2, 3, 4, 5, 39, 40, HIGH}) {
                d.due("order of place " + place + ", " + i, otherKinds().order(place, i), BAD);
            }
            d.due("order of an empty house, " + i, new SpokenMenus().order(0, i), BAD);
        }
    }

    /** A MENU without LINES has no order, and sums of 0. */
    private static void orderWithoutLines() {
        SpokenMenus x = otherKinds();
        x.group(1000, 0, 0, 5000, 0, 0);
        d.due("sum", x.order(0, -1), 0);
        d.due("best sum", x.order(0, -2), 0);
        d.due("line 0", x.order(0, 0), NONE);
        d.due("BAD ahead of NONE", x.order(0, -3), BAD);
    }

    /** No GROUPS: all are like, as they stand. */
    private static void orderWithoutGroups() {
        SpokenMenus x = sixLines();
        x.change(0, 5, 0, 1);
        d.due("sum", x.order(0, -1), 0);
        d.due("best sum", x.order(0, -2), 0);
        d.dueRow("as they stand", Ask.ordered(x, 0), 0, 1, 2, 3, 4, 5);
        x.group(5, 5, 0, 5000, 0, 0);
        d.dueRow("with a group", Ask.ordered(x, 0), 5, 0, 1, 2, 3, 4);
        x.noGroups();
        d.dueRow("as they stand, when it is gone", Ask.ordered(x, 0), 0, 1, 2, 3, 4, 5);
    }

    private static void orderOfOneLine() {
        SpokenMenus x = new SpokenMenus();
        x.menu(1, 1, -1);
        x.line(0, 7, 0, 1, -1);
        x.group(3, 0, 0, 5000, 0, 0);
        d.due("sum", x.order(0, -1), 21);
        d.due("best sum", x.order(0, -2), 21);
        d.dueRow("alone", Ask.ordered(x, 0), 0);
    }

    /** "Sum of callers times ticks of LINES up to theirs is least", with all LINES that a MENU can have. */
    private static void orderOfSixLines() {
        SpokenMenus x = sixLines();
        int sum = 0;
        int best = 0;
        for (int wish = 0; wish < 6; wish++) {
            x.group(1 + wish, wish, 0, 5000, 0, 0);
            sum += (1 + wish) * 10 * (wish + 1);
            best += (1 + wish) * 10 * (6 - wish);
        }
        d.due("sum", x.order(0, -1), sum);
        d.due("best sum", x.order(0, -2), best);
        d.dueRow("from behind", Ask.ordered(x, 0), 5, 4, 3, 2, 1, 0);
    }

    /** The greatest numbers: 12 GROUPS of 1000 behind six LINES of 200 ticks. */
    private static void greatestOrder() {
        SpokenMenus x = sixLines();
        for (int i = 0; i < 6; i++) {
            x.change(0, i, 0, 200);
        }
        for (int g = 0; g < 12; g++) {
            x.group(1000, 5, 0, 5000, 0, 0);
        }
        d.due("sum", x.order(0, -1), 12000 * 1200);
        d.due("best sum", x.order(0, -2), 12000 * 200);
        d.due("the sixth is first", x.order(0, 0), 5);
    }

    /** "GROUPS that come to it": also who hangs up at it, not who does ahead of it. */
    private static void whoComes() {
        SpokenMenus x = new SpokenMenus();
        x.leaf(10, 0, 1);
        x.menu(1, 1, -1);
        x.line(1, 5, 0, 1, -1);
        x.group(1, 0, 0, 9, 0, 0);
        d.due("hung up at the leaf", x.order(1, -1), 0);
        x.group(10, 0, 0, 10, 0, 0);
        d.due("hung up at the menu", x.order(1, -1), 50);
        x.group(100, 0, 0, 11, 0, 0);
        d.due("hung up later at the menu", x.order(1, -1), 550);
        SpokenMenus y = new SpokenMenus();
        y.clock(9, 17, 1, -1);
        y.menu(1, 1, -1);
        y.line(1, 5, 0, 1, -1);
        y.group(1, 0, 0, 100, 8, 0);
        y.group(1, 0, 0, 100, 17, 0);
        d.due("sent elsewhere by the hour", y.order(1, -1), 0);
        y.group(1, 0, 0, 100, 9, 0);
        y.group(1, 0, 0, 100, 16, 0);
        d.due("sent to it by the hour", y.order(1, -1), 10);
    }

    /** "and do not know". */
    private static void whoDoesNotKnow() {
        SpokenMenus x = sixLines();
        x.group(1000, 5, 0, 5000, 0, 1);
        d.due("who knows", x.order(0, -1), 0);
        x.group(1, 5, 0, 5000, 0, 0);
        d.due("who does not", x.order(0, -1), 60);
    }

    /** "(asked at their first coming)": who comes again counts once. */
    private static void firstComing() {
        SpokenMenus x = new SpokenMenus();
        x.menu(1, 1, -1);
        x.line(0, 5, 0, 1, 0);
        x.group(7, 0, 0, 5000, 0, 0);
        d.due("again and again", x.order(0, -1), 35);
    }

    /** "each counts at the first LINE that speaks of its WISH by the order there is". */
    private static void firstLineThatSpeaks() {
        SpokenMenus x = new SpokenMenus();
        x.menu(1, 1, -1);
        x.line(0, 10, 0, 65534, -1);
        x.line(0, 1, 1, 65535, -1);
        x.group(2, 15, 0, 5000, 0, 0);
        d.due("wish 15 at the first", x.order(0, -1), 20);
        d.dueRow("it stays there in the best order", Ask.ordered(x, 0), 0, 1);
        x.group(1, 0, 0, 5000, 0, 0);
        d.due("wish 0 at the second", x.order(0, -1), 20 + 11);
        d.dueRow("best", Ask.ordered(x, 0), 1, 0);
        d.due("best sum", x.order(0, -2), 1 + 22);
        x.arrange(0);
        d.due("by the new order all are at the first", x.order(0, -1), 3);
        x.change(0, 0, 1, 0);
        x.change(0, 1, 1, 0);
        d.due("no line speaks of it", x.order(0, -1), 0);
    }

    /** "by ticks times the other's callers, the lesser first; of like ones as they stand." */
    private static void likeOnes() {
        SpokenMenus x = sixLines();
        int[] ticks = {20, 30, 10, 5, 40, 200};
        int[] callers = {200, 300, 100, 51, 399, 0};
        for (int i = 0; i < 6; i++) {
            x.change(0, i, 0, ticks[i]);
            if (callers[i] > 0) {
                x.group(callers[i], i, 0, 5000, 0, 0);
            }
        }
        d.dueRow("like ones as they stand, one just less, one just more", Ask.ordered(x, 0), 3, 0, 1, 2, 4, 5);
        x.swap(0, 0, 5);
        d.dueRow("no callers are last", Ask.ordered(x, 0), 3, 1, 2, 5, 4, 0);
    }

    /** "LINES of a MENU stand in THE ORDER: 0. BAD: also not a MENU." */
    private static void arrangeNumbers() {
        d.bounds("arrange: place", 0, 0, 0, BAD, v -> sixLines().arrange(v));
        for (int place : new int[] {1, 2, 3, 4, 5, 39, 40}) {
            d.due("arrange place " + place, otherKinds().arrange(place), BAD);
        }
        d.due("an empty house", new SpokenMenus().arrange(0), BAD);
    }

    private static void arrangeWithoutLines() {
        SpokenMenus x = otherKinds();
        x.group(1000, 0, 0, 5000, 0, 0);
        d.due("arrange", x.arrange(0), 0);
        d.due("no lines", x.place(0, 2), 0);
    }

    private static void arrangeWithoutGroups() {
        SpokenMenus x = sixLines();
        d.due("arrange", x.arrange(0), 0);
        d.dueRow("as they stood", Ask.keysOf(x, 0), 11, 10, 9, 8, 7, 6);
    }

    private static void arrangeSixLines() {
        SpokenMenus x = sixLines();
        for (int wish = 0; wish < 6; wish++) {
            x.group(1 + wish, wish, 0, 5000, 0, 0);
        }
        int best = x.order(0, -2);
        d.due("arrange", x.arrange(0), 0);
        d.dueRow("from behind", Ask.keysOf(x, 0), 6, 7, 8, 9, 10, 11);
        d.due("the best sum", x.order(0, -1), best);
        d.due("again", x.arrange(0), 0);
        d.dueRow("as before", Ask.keysOf(x, 0), 6, 7, 8, 9, 10, 11);
        d.due("still full", x.line(0, 1, 0, 0, -1), FULL);
        d.due("its keys are still had", x.line(0, 1, 11, 0, -1), BAD);
    }
}
