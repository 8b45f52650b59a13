import java.util.ArrayList;
import java.util.Arrays;
import java.util.List;

/**
 * "Of several the first; nothing changes then.": behind a call that is
 * refused, and behind one that only asks, every other answer is as before it.
 *
 * A state is told as the calls that make it. It is made anew for each call
 * that is tried and for each row of questions, so that no object has more
 * than its 512 calls.
 */
public final class RefusedTest {
    private static final int BAD = SpokenMenus.BAD;
    private static final int NO = SpokenMenus.NO;
    private static final int FULL = SpokenMenus.FULL;
    private static final int NONE = SpokenMenus.NONE;
    private static final int NOT = -1000;
    private static final int LOW = Integer.MIN_VALUE;
    private static final int HIGH = Integer.MAX_VALUE;
    private static final int MOST_CALLS = 512;
    private static final Due d = new Due();

    private final String name;
    private final List<Call> state;
    private final List<List<Call>> questions;
    private final int[][] before;

    private RefusedTest(String name, List<Call> state) {
        this.name = name;
        this.state = state;
        this.questions = List.of(tellings(), sums(), plans(), doings());
        this.before = new int[questions.size()][];
        for (int q = 0; q < before.length; q++) {
            before[q] = answers(questions.get(q), null, 0);
        }
    }

    public static void main(String[] args) {
        RefusedTest empty = new RefusedTest("empty", List.of());
        empty.everywhere();
        empty.ofAnEmptyHouse();
        empty.asking();
        RefusedTest small = new RefusedTest("small", small());
        small.everywhere();
        small.ofASmallHouse();
        small.asking();
        RefusedTest full = new RefusedTest("full", full());
        full.isFull();
        full.everywhere();
        full.ofAFullHouse();
        full.asking();
        d.end();
    }

    /** A place of each kind, two menus, a call, groups that know and do not, a plan for three. */
    private static List<Call> small() {
        return List.of(Call.of("menu", 5, 2, 2), Call.of("line", 0, 10, 1, 1, 1), Call.of("line", 0, 8, 2, 6, 5),
            Call.of("desk", 20, 3), Call.of("leaf", 7, 8, 3), Call.of("clock", 22, 6, 1, 4), Call.of("asked", 6, 3, 2, 1, 30),
            Call.of("menu", 3, 1, 0), Call.of("line", 5, 4, 11, 4, 0), Call.of("ring", 2, 130, 300, 7, 0),
            Call.of("group", 10, 0, 0, 500, 0, 0), Call.of("group", 20, 2, 0, 40, 7, 0), Call.of("group", 5, 1, 130, 500, 23, 1),
            Call.of("wish", 0, 10, 5), Call.of("wish", 1, 4, 20), Call.of("wish", 2, 6, 1), Call.of("plan", 3, 8, 2),
            Call.of("wish", 2, 60, 100));
    }

    /** 40 places, two menus of six lines, a call of more than 60 places and keys, 12 groups, a plan for eight. */
    private static List<Call> full() {
        List<Call> calls = new ArrayList<>();
        calls.add(Call.of("menu", 100, 3, 1));
        calls.add(Call.of("menu", 1, 1, 0));
        for (int i = 0; i < 6; i++) {
            calls.add(Call.of("line", 0, 1 + i, i, 1 << i, i == 0 ? 1 : 2 + i));
            calls.add(Call.of("line", 1, 20 - i, 11 - i, 1 << i, i == 0 ? 0 : 10 + i));
        }
        for (int p = 2; p < 40; p++) {
            int next = p < 39 ? p + 1 : -1;
            Call[] kinds = {Call.of("desk", p, p), Call.of("leaf", p, 2 * p, next), Call.of("clock", p % 24, 12, next, 0),
                Call.of("asked", p, 1 + p % 8, 1 + p % 3, next, 1)};
            calls.add(kinds[p % 4]);
        }
        for (int g = 0; g < 12; g++) {
            calls.add(Call.of("group", 1000 - g, g % 7, g * 31, 400 * (g + 1), 2 * g, g % 3 == 0 ? 1 : 0));
        }
        for (int k = 0; k < 8; k++) {
            calls.add(Call.of("wish", k, 200 - 20 * k, 100 * k));
        }
        calls.add(Call.of("plan", 8, 30, 3));
        calls.add(Call.of("ring", 0, 99999999, 5000, 23, 0));
        return calls;
    }

    /** The full state is what its name says, or its tests would show nothing. */
    private void isFull() {
        List<Call> asked = List.of(Call.of("count", 0), Call.of("count", 1), Call.of("place", 0, 2), Call.of("place", 1, 2));
        d.dueRow("full", answers(asked, null, 0), 40, 12, 6, 6);
        int[] kept = answers(List.of(Call.of("call", 2), Call.of("call", 3)), null, 0);
        d.holds("more than 60 places and keys are kept", kept[0] > 60 && kept[1] > 60);
    }

    /** The answers to questions in this state, behind a call that has its due answer (or none, null). */
    private int[] answers(List<Call> asked, Call tried, int due) {
        SpokenMenus x = new SpokenMenus();
        d.holds(name + ": no more than 512 calls", state.size() + 1 + asked.size() <= MOST_CALLS);
        for (Call call : state) {
            call.on(x);
        }
        if (tried != null) {
            d.due(name + ", " + tried, tried.on(x), due);
        }
        int[] row = new int[asked.size()];
        for (int i = 0; i < row.length; i++) {
            row[i] = asked.get(i).on(x);
        }
        return row;
    }

    private void refused(int due, String call, int... a) {
        changesNothing(new Call(call, a), due);
    }

    private void changesNothing(Call tried, int due) {
        for (int q = 0; q < before.length; q++) {
            int[] then = answers(questions.get(q), tried, due);
            for (int i = 0; i < then.length; i++) {
                if (then[i] != before[q][i]) {
                    d.due(name + ", " + questions.get(q).get(i) + " behind " + tried, then[i], before[q][i]);
                }
            }
            d.holds(name + ": all as before " + tried, Arrays.equals(then, before[q]));
        }
    }

    private static List<Call> tellings() {
        List<Call> row = new ArrayList<>();
        for (int what = 0; what < 6; what++) {
            row.add(Call.of("count", what % 3));
            row.add(Call.of("call", what % 4));
            for (int p = 0; p < 40; p++) {
                row.add(Call.of("place", p, what));
            }
        }
        for (int i = 0; i < 61; i++) {
            row.add(Call.of("came", i));
            row.add(Call.of("pressed", i));
        }
        return row;
    }

    private static List<Call> sums() {
        List<Call> row = new ArrayList<>();
        for (int place : new int[] {0, 1, 5}) {
            for (int i = 0; i < 6; i++) {
                for (int what = 0; what < 4; what++) {
                    row.add(Call.of("lineOf", place, i, what));
                }
            }
            for (int i = -2; i < 7; i++) {
                row.add(Call.of("order", place, i));
            }
        }
        for (int what = 0; what < 5; what++) {
            row.add(Call.of("sum", what));
        }
        for (int p = 0; p < 40; p++) {
            row.add(Call.of("hung", p));
            row.add(Call.of("fewest", p, p % 8, 130, 7));
            row.add(Call.of("trap", p % 24, p / 24 - 1));
        }
        return row;
    }

    private static List<Call> plans() {
        List<Call> row = new ArrayList<>();
        for (int set = 1; set < 256; set += set < 8 ? 1 : 4) {
            for (int j = 0; j < 4; j++) {
                row.add(Call.of("planned", set, j));
            }
        }
        for (int j = 0; j < 7; j++) {
            row.add(Call.of("planned", 255, j));
        }
        return row;
    }

    /** What later calls do; it ends with what takes a place, a line and a group more. */
    private static List<Call> doings() {
        List<Call> row = new ArrayList<>();
        for (int wish = 0; wish < 16; wish++) {
            row.add(Call.of("ring", wish, 31 * wish, 100 * wish + 1, wish, wish % 2));
            for (int what = 0; what < 4; what++) {
                row.add(Call.of("call", what));
            }
        }
        for (int n = 1; n <= 8; n++) {
            row.add(Call.of("plan", n, 5, 2 + n % 5));
        }
        row.add(Call.of("change", 0, 0, 0, 9));
        row.add(Call.of("swap", 0, 0, 1));
        row.add(Call.of("arrange", 0));
        row.add(Call.of("lineOf", 0, 0, 1));
        row.add(Call.of("lineOf", 0, 1, 1));
        row.add(Call.of("line", 0, 9, 9, 9, 9));
        row.add(Call.of("group", 1, 0, 0, 1, 0, 0));
        row.add(Call.of("desk", 1, 1));
        row.add(Call.of("noGroups"));
        return row;
    }

    /** Calls that only ask have an answer, and change nothing either. */
    private void asking() {
        for (int q = 0; q < 3; q++) {
            List<Call> asked = questions.get(q);
            for (int i = 0; i < asked.size(); i++) {
                changesNothing(asked.get(i), before[q][i]);
            }
        }
    }

    /** Numbers that are none in any state. */
    private void everywhere() {
        for (int wait : new int[] {0, 101, LOW, HIGH}) {
            refused(BAD, "menu", wait, 1, -1);
        }
        for (int times : new int[] {0, 4}) {
            refused(BAD, "menu", 1, times, -1);
            refused(BAD, "asked", 1, 1, times, -1, -1);
        }
        for (int next : new int[] {-2, 40, LOW, HIGH}) {
            refused(BAD, "menu", 1, 1, next);
            refused(BAD, "line", 0, 1, 9, 0, next);
            refused(BAD, "leaf", 1, 0, next);
            refused(BAD, "clock", 0, 0, next, -1);
            refused(BAD, "clock", 0, 0, -1, next);
            refused(BAD, "asked", 1, 1, 1, next, -1);
            refused(BAD, "asked", 1, 1, 1, -1, next);
            refused(NOT, "change", 0, 0, 2, next);
        }
        for (int wishes : new int[] {-1, 65536, LOW, HIGH}) {
            refused(BAD, "line", 0, 1, 9, wishes, -1);
            refused(BAD, "desk", 0, wishes);
            refused(BAD, "leaf", 1, wishes, -1);
            refused(NOT, "change", 0, 0, 1, wishes);
        }
        for (int ticks : new int[] {0, 201, LOW, HIGH}) {
            refused(BAD, "line", 0, ticks, 9, 0, -1);
            refused(BAD, "leaf", ticks, 0, -1);
            refused(BAD, "asked", ticks, 1, 1, -1, -1);
            refused(NOT, "change", 0, 0, 0, ticks);
            refused(BAD, "wish", 0, ticks, 7);
            refused(BAD, "plan", 2, ticks, 2);
        }
        refused(BAD, "line", 0, 1, -1, 0, -1);
        refused(BAD, "line", 0, 1, 12, 0, -1);
        refused(BAD, "desk", -1, 0);
        refused(BAD, "desk", 501, 0);
        refused(BAD, "asked", 1, 0, 1, -1, -1);
        refused(BAD, "asked", 1, 9, 1, -1, -1);
        refused(NOT, "change", 0, 0, -1, 1);
        refused(NOT, "change", 0, 0, 3, 1);
        refused(NOT, "place", 0, 6);
        refused(NOT, "lineOf", 0, 0, 4);
        wrongCallers();
        wrongPlans();
        for (int place : new int[] {LOW, -1, 40, HIGH}) {
            refused(BAD, "line", place, 1, 9, 0, -1);
            refused(NOT, "change", place, 0, 0, 1);
            refused(BAD, "swap", place, 0, 1);
            refused(NOT, "place", place, 0);
            refused(NOT, "lineOf", place, 0, 0);
            refused(BAD, "fewest", place, 0, 0, 0);
            refused(BAD, "hung", place);
            refused(BAD, "order", place, 0);
            refused(BAD, "arrange", place);
        }
        for (int i : new int[] {LOW, -1, 6, HIGH}) {
            refused(NOT, "change", 0, i, 0, 1);
            refused(BAD, "swap", 0, i, 0);
            refused(BAD, "swap", 0, 0, i);
            refused(NOT, "lineOf", 0, i, 0);
        }
    }

    private void wrongCallers() {
        int[][] wrong = {
            {-1, 0, 1, 0, 0}, {16, 0, 1, 0, 0}, {0, -1, 1, 0, 0}, {0, 100000000, 1, 0, 0}, {0, 0, 0, 0, 0}, {0, 0, 5001, 0, 0},
            {0, 0, 1, -1, 0}, {0, 0, 1, 24, 0}, {0, 0, 1, 0, -1}, {0, 0, 1, 0, 2}, {LOW, LOW, LOW, LOW, LOW},
        };
        for (int[] w : wrong) {
            refused(BAD, "ring", w);
            refused(BAD, "group", 1, w[0], w[1], w[2], w[3], w[4]);
            if (w[2] == 1 && w[4] == 0) {
                refused(BAD, "fewest", 0, w[0], w[1], w[3]);
            }
        }
        refused(BAD, "group", 0, 0, 0, 1, 0, 0);
        refused(BAD, "group", 1001, 0, 0, 1, 0, 0);
        refused(BAD, "trap", -1, -1);
        refused(BAD, "trap", 24, -1);
        refused(BAD, "trap", 0, -2);
        refused(BAD, "call", -1);
        refused(BAD, "call", 4);
        refused(BAD, "came", -1);
        refused(NONE, "came", 60);
        refused(BAD, "pressed", -1);
        refused(NONE, "pressed", 60);
        refused(BAD, "sum", -1);
        refused(BAD, "sum", 5);
        refused(BAD, "order", 0, -3);
        refused(BAD, "count", -1);
        refused(BAD, "count", 3);
    }

    private void wrongPlans() {
        refused(BAD, "wish", -1, 9, 9);
        refused(BAD, "wish", 8, 9, 9);
        refused(BAD, "wish", 0, 9, -1);
        refused(BAD, "wish", 0, 9, 1001);
        refused(BAD, "plan", 0, 9, 2);
        refused(BAD, "plan", 9, 9, 2);
        refused(BAD, "plan", 2, 9, 1);
        refused(BAD, "plan", 2, 9, 7);
        refused(BAD, "planned", 0, 0);
        refused(BAD, "planned", 256, 0);
        refused(BAD, "planned", 1, -1);
    }

    private void ofAnEmptyHouse() {
        refused(BAD, "line", 0, 1, 0, 0, -1);
        refused(NOT, "change", 0, 0, 0, 1);
        refused(BAD, "swap", 0, 0, 0);
        refused(NO, "ring", 0, 0, 1, 0, 0);
        refused(NO, "ring", 15, 99999999, 5000, 23, 1);
        refused(NO, "trap", 0, -1);
        refused(NO, "sum", 0);
        refused(NO, "planned", 255, 0);
        refused(BAD, "hung", 0);
        refused(BAD, "order", 0, -1);
        refused(BAD, "arrange", 0);
        refused(0, "noGroups");
    }

    private void ofASmallHouse() {
        for (int place : new int[] {1, 2, 3, 4, 6, 39}) {
            refused(BAD, "line", place, 1, 9, 1, 1);
            refused(NOT, "change", place, 0, 0, 1);
            refused(BAD, "swap", place, 0, 0);
            refused(BAD, "arrange", place);
        }
        refused(BAD, "line", 0, 1, 1, 1, 1);
        refused(BAD, "line", 0, 1, 2, 1, 1);
        refused(BAD, "line", 5, 1, 11, 1, 1);
        refused(NOT, "change", 0, 2, 0, 1);
        refused(NOT, "change", 5, 1, 1, 1);
        refused(BAD, "swap", 0, 1, 2);
        refused(BAD, "swap", 0, 2, 1);
        refused(BAD, "swap", 5, 0, 1);
        refused(NONE, "order", 0, 2);
        refused(BAD, "hung", 6);
        refused(BAD, "fewest", 6, 0, 0, 0);
        refused(BAD, "planned", 8, 0);
        refused(NONE, "planned", 1, 0);
        refused(NONE, "planned", 7, 2);
    }

    private void ofAFullHouse() {
        refused(FULL, "menu", 1, 1, -1);
        refused(FULL, "desk", 0, 0);
        refused(FULL, "leaf", 1, 0, -1);
        refused(FULL, "clock", 0, 0, -1, -1);
        refused(FULL, "asked", 1, 1, 1, -1, -1);
        refused(FULL, "line", 0, 1, 6, 1, 1);
        refused(FULL, "line", 0, 200, 11, 65535, 39);
        refused(FULL, "line", 1, 1, 0, 1, 1);
        refused(BAD, "line", 0, 1, 0, 1, 1);
        refused(BAD, "line", 0, 1, 5, 1, 1);
        refused(BAD, "line", 1, 1, 11, 1, 1);
        refused(FULL, "group", 1, 0, 0, 1, 0, 0);
        refused(FULL, "group", 1000, 15, 99999999, 5000, 23, 1);
        refused(NONE, "order", 0, 6);
        refused(NONE, "trap", 0, 40);
        refused(NONE, "planned", 255, 6);
        refused(NONE, "planned", 128, 0);
    }
}
