import java.util.ArrayList;
import java.util.Arrays;
import java.util.Comparator;
import java.util.HashMap;
import java.util.List;
import java.util.Map;
import java.util.PriorityQueue;
import java.util.TreeSet;

/**
 * The document told a second time, slowly and by other means than the class:
 * calls go tick by tick, ways by a search from their beginning, THE ORDER and
 * THE PLAN by trying all there are. For wrong inputs and right ones alike.
 */
final class Model {
    private static final int BAD = -1, NO = -2, FULL = -3, NONE = -4, NOT = -1000;

    /** A line: ticks, key, wishes, next. */
    private static final class Spot {
        int kind, ticks, served, next = -1, other = -1, times, figures, tries, from, to;
        List<int[]> lines = new ArrayList<>();
    }

    private static final class Gone extends Exception {
        private static final long serialVersionUID = 1L;
        final int how;

        Gone(int how) {
            this.how = how;
        }
    }

    /** A call: wish, number, patience, hour, knows as told. */
    private final class Trip {
        final int wish, number, patience, hour;
        boolean knows;
        int ticks, at, how, clocks;
        List<Integer> came = new ArrayList<>(), keys = new ArrayList<>();

        Trip(int[] caller) {
            wish = caller[0];
            number = caller[1];
            patience = caller[2];
            hour = caller[3];
            knows = caller[4] == 1 && shortest(0, wish, number, hour) >= 0;
            try {
                int next = 0;
                while (true) {
                    next = through(next);
                }
            } catch (Gone gone) {
                how = gone.how;
            }
        }

        void tick(int n) throws Gone {
            for (int i = 0; i < n; i++) {
                if (ticks == patience) {
                    throw new Gone(2);
                }
                ticks++;
            }
        }

        int through(int p) throws Gone {
            if (p < 0 || p >= spots.size()) {
                throw new Gone(1);
            }
            at = p;
            came.add(p);
            Spot s = spots.get(p);
            clocks = s.kind == 3 ? clocks + 1 : 0;
            if (clocks == 41) {
                throw new Gone(3);
            }
            if (s.kind == 0) {
                return throughMenu(s);
            }
            if (s.kind == 1) {
                tick(s.ticks);
                throw new Gone(has(s.served, wish) ? 0 : 1);
            }
            if (s.kind == 2) {
                tick(s.ticks);
                if (has(s.served, wish)) {
                    throw new Gone(0);
                }
                return s.next;
            }
            if (s.kind == 3) {
                return isOpen(s, hour) ? s.next : s.other;
            }
            for (int i = 0; i < s.tries; i++) {
                tick(knows ? 0 : s.ticks);
                tick(s.figures);
                if (right(number, s.figures)) {
                    return s.next;
                }
            }
            return s.other;
        }

        int throughMenu(Spot s) throws Gone {
            if (knows) {
                int[] best = null;
                int least = add(listen(s), shortest(s.next, wish, number, hour));
                for (int i = s.lines.size() - 1; i >= 0; i--) {
                    int way = add(1, shortest(s.lines.get(i)[3], wish, number, hour));
                    if (way >= 0 && (least < 0 || way <= least)) {
                        least = way;
                        best = s.lines.get(i);
                    }
                }
                if (best != null) {
                    return press(best);
                }
            }
            for (int i = 0; i < s.times; i++) {
                for (int[] line : s.lines) {
                    tick(line[0]);
                    if (!knows && has(line[2], wish)) {
                        return press(line);
                    }
                }
                tick(s.ticks);
            }
            return s.next;
        }

        int press(int[] line) throws Gone {
            keys.add(line[1]);
            tick(1);
            return line[3];
        }
    }

    private final List<Spot> spots = new ArrayList<>();
    private final List<int[]> groups = new ArrayList<>();
    private final int[][] wishes = {{1, 0}, {1, 0}, {1, 0}, {1, 0}, {1, 0}, {1, 0}, {1, 0}, {1, 0}};
    private Trip latest = null;
    private int planWishes = 0;
    private Map<Integer, List<Integer>> menus = new HashMap<>();
    private Map<Integer, Integer> costs = new HashMap<>();

    private static boolean in(int v, int least, int most) {
        return least <= v && v <= most;
    }

    private static boolean has(int bits, int i) {
        return (bits / (1 << i)) % 2 == 1;
    }

    private static int add(int ticks, int way) {
        return way < 0 ? -1 : ticks + way;
    }

    private static int listen(Spot s) {
        int sum = s.ticks;
        for (int[] line : s.lines) {
            sum += line[0];
        }
        return sum * s.times;
    }

    private static boolean isOpen(Spot s, int hour) {
        if (s.from == s.to) {
            return true;
        }
        for (int h = s.from; h != s.to; h = (h + 1) % 24) {
            if (h == hour) {
                return true;
            }
        }
        return false;
    }

    private static boolean right(int number, int figures) {
        String text = String.valueOf(number);
        if (number != 0 && text.length() > figures) {
            return false;
        }
        int sum = 0;
        for (int i = 0; i < text.length(); i++) {
            int figure = text.charAt(text.length() - 1 - i) - '0';
            sum += i % 2 == 0 ? figure : 3 * figure;
        }
        return sum % 10 == 0;
    }

    /** From a place on, the nearest first; -1: there is no way. */
    private int shortest(int from, int wish, int number, int hour) {
        PriorityQueue<int[]> open = new PriorityQueue<>(Comparator.comparingInt(e -> e[0]));
        boolean[] done = new boolean[41];
        open.add(new int[] {0, from});
        while (!open.isEmpty()) {
            int[] e = open.remove();
            int p = e[1];
            if (p == 99) {
                return e[0];
            }
            if (p < 0 || p >= spots.size() || done[p]) {
                continue;
            }
            done[p] = true;
            Spot s = spots.get(p);
            if (s.kind == 0) {
                for (int[] line : s.lines) {
                    open.add(new int[] {e[0] + 1, line[3]});
                }
                open.add(new int[] {e[0] + listen(s), s.next});
            } else if (s.kind == 1 || s.kind == 2) {
                open.add(new int[] {e[0] + s.ticks, has(s.served, wish) ? 99 : s.next});
            } else if (s.kind == 3) {
                open.add(new int[] {e[0], isOpen(s, hour) ? s.next : s.other});
            } else if (right(number, s.figures)) {
                open.add(new int[] {e[0] + s.figures, s.next});
            } else {
                open.add(new int[] {e[0] + s.tries * s.figures, s.other});
            }
        }
        return -1;
    }

    private boolean isMenu(int p) {
        return in(p, 0, spots.size() - 1) && spots.get(p).kind == 0;
    }

    private int put(Spot s) {
        if (spots.size() == 40) {
            return FULL;
        }
        spots.add(s);
        return spots.size() - 1;
    }

    int menu(int wait, int times, int then) {
        if (!(in(wait, 1, 100) && in(times, 1, 3) && in(then, -1, 39))) {
            return BAD;
        }
        Spot s = new Spot();
        s.ticks = wait;
        s.times = times;
        s.next = then;
        return put(s);
    }

    int line(int place, int ticks, int key, int served, int next) {
        if (!(isMenu(place) && in(ticks, 1, 200) && in(key, 0, 11) && in(served, 0, 65535) && in(next, -1, 39))) {
            return BAD;
        }
        List<int[]> lines = spots.get(place).lines;
        if (lines.stream().anyMatch(l -> l[1] == key)) {
            return BAD;
        }
        if (lines.size() == 6) {
            return FULL;
        }
        lines.add(new int[] {ticks, key, served, next});
        return lines.size();
    }

    int desk(int ticks, int served) {
        if (!(in(ticks, 0, 500) && in(served, 0, 65535))) {
            return BAD;
        }
        Spot s = new Spot();
        s.kind = 1;
        s.ticks = ticks;
        s.served = served;
        return put(s);
    }

    int leaf(int ticks, int served, int then) {
        if (!(in(ticks, 1, 200) && in(served, 0, 65535) && in(then, -1, 39))) {
            return BAD;
        }
        Spot s = new Spot();
        s.kind = 2;
        s.ticks = ticks;
        s.served = served;
        s.next = then;
        return put(s);
    }

    int clock(int from, int to, int open, int shut) {
        if (!(in(from, 0, 23) && in(to, 0, 23) && in(open, -1, 39) && in(shut, -1, 39))) {
            return BAD;
        }
        Spot s = new Spot();
        s.kind = 3;
        s.from = from;
        s.to = to;
        s.next = open;
        s.other = shut;
        return put(s);
    }

    int asked(int ticks, int figures, int tries, int right, int wrong) {
        if (!(in(ticks, 1, 200) && in(figures, 1, 8) && in(tries, 1, 3) && in(right, -1, 39) && in(wrong, -1, 39))) {
            return BAD;
        }
        Spot s = new Spot();
        s.kind = 4;
        s.ticks = ticks;
        s.figures = figures;
        s.tries = tries;
        s.next = right;
        s.other = wrong;
        return put(s);
    }

    int change(int place, int i, int what, int v) {
        int[][] ranges = {{1, 200}, {0, 65535}, {-1, 39}};
        int[] at = {0, 2, 3};
        if (!isMenu(place) || !in(i, 0, spots.get(place).lines.size() - 1) || !in(what, 0, 2)
            || !in(v, ranges[what][0], ranges[what][1])) {
            return NOT;
        }
        int[] line = spots.get(place).lines.get(i);
        int was = line[at[what]];
        line[at[what]] = v;
        return was;
    }

    int swap(int place, int i, int j) {
        if (!isMenu(place)) {
            return BAD;
        }
        List<int[]> lines = spots.get(place).lines;
        if (!in(i, 0, lines.size() - 1) || !in(j, 0, lines.size() - 1)) {
            return BAD;
        }
        java.util.Collections.swap(lines, i, j);
        return 0;
    }

    int place(int p, int what) {
        if (!in(p, 0, spots.size() - 1) || !in(what, 0, 5)) {
            return NOT;
        }
        Spot s = spots.get(p);
        return new int[] {s.kind, s.ticks, s.lines.size(), s.next, s.other, s.served}[what];
    }

    int lineOf(int place, int i, int what) {
        if (!isMenu(place) || !in(i, 0, spots.get(place).lines.size() - 1) || !in(what, 0, 3)) {
            return NOT;
        }
        return spots.get(place).lines.get(i)[what];
    }

    private static boolean caller(int wish, int number, int patience, int hour, int knows) {
        return in(wish, 0, 15) && in(number, 0, 99999999) && in(patience, 1, 5000) && in(hour, 0, 23) && in(knows, 0, 1);
    }

    int ring(int wish, int number, int patience, int hour, int knows) {
        if (!caller(wish, number, patience, hour, knows)) {
            return BAD;
        }
        if (spots.isEmpty()) {
            return NO;
        }
        latest = new Trip(new int[] {wish, number, patience, hour, knows});
        return latest.how;
    }

    int call(int what) {
        if (!in(what, 0, 3)) {
            return BAD;
        }
        return latest == null ? NONE
            : new int[] {latest.ticks, latest.at, latest.came.size(), latest.keys.size()}[what];
    }

    private static int kept(List<Integer> row, int i) {
        return i < 0 ? BAD : i >= row.size() || i >= 60 ? NONE : row.get(i);
    }

    int came(int i) {
        return kept(latest == null ? new ArrayList<>() : latest.came, i);
    }

    int pressed(int i) {
        return kept(latest == null ? new ArrayList<>() : latest.keys, i);
    }

    int fewest(int place, int wish, int number, int hour) {
        if (!in(place, 0, spots.size() - 1) || !caller(wish, number, 1, hour, 0)) {
            return BAD;
        }
        int way = shortest(place, wish, number, hour);
        return way < 0 ? NONE : way;
    }

    private void lead(int p, int hour, TreeSet<Integer> found) {
        if (p < 0 || p >= spots.size() || !found.add(p)) {
            return;
        }
        Spot s = spots.get(p);
        for (int[] line : s.lines) {
            lead(line[3], hour, found);
        }
        if (s.kind != 3 || isOpen(s, hour)) {
            lead(s.next, hour, found);
        }
        if (s.kind == 4 || s.kind == 3 && !isOpen(s, hour)) {
            lead(s.other, hour, found);
        }
    }

    int trap(int hour, int i) {
        if (!in(hour, 0, 23) || i < -1) {
            return BAD;
        }
        if (spots.isEmpty()) {
            return NO;
        }
        TreeSet<Integer> all = new TreeSet<>();
        lead(0, hour, all);
        List<Integer> traps = new ArrayList<>();
        for (int p : all) {
            TreeSet<Integer> from = new TreeSet<>();
            lead(p, hour, from);
            if (from.stream().noneMatch(q -> spots.get(q).kind == 1)) {
                traps.add(p);
            }
        }
        return i == -1 ? traps.size() : i < traps.size() ? traps.get(i) : NONE;
    }

    int group(int many, int wish, int number, int patience, int hour, int knows) {
        if (!in(many, 1, 1000) || !caller(wish, number, patience, hour, knows)) {
            return BAD;
        }
        if (groups.size() == 12) {
            return FULL;
        }
        groups.add(new int[] {wish, number, patience, hour, knows, many});
        return groups.size();
    }

    int noGroups() {
        int were = groups.size();
        groups.clear();
        return were;
    }

    int sum(int what) {
        if (!in(what, 0, 4)) {
            return BAD;
        }
        if (spots.isEmpty()) {
            return NO;
        }
        int[] sums = new int[5];
        for (int[] g : groups) {
            Trip trip = new Trip(g);
            sums[0] += g[5] * trip.ticks;
            sums[1 + trip.how] += g[5];
        }
        return sums[what];
    }

    int hung(int place) {
        if (!in(place, 0, spots.size() - 1)) {
            return BAD;
        }
        int sum = 0;
        for (int[] g : groups) {
            Trip trip = new Trip(g);
            sum += trip.how == 2 && trip.at == place ? g[5] : 0;
        }
        return sum;
    }

    private int[] callersAt(int place) {
        List<int[]> lines = spots.get(place).lines;
        int[] callers = new int[lines.size()];
        for (int[] g : groups) {
            if (g[4] == 0 && new Trip(g).came.contains(place)) {
                for (int l = 0; l < callers.length; l++) {
                    if (has(lines.get(l)[2], g[0])) {
                        callers[l] += g[5];
                        break;
                    }
                }
            }
        }
        return callers;
    }

    private static int cost(List<int[]> lines, int[] callers, List<Integer> order) {
        int sum = 0;
        for (int l = 0; l < order.size(); l++) {
            for (int upTo = 0; upTo <= l; upTo++) {
                sum += callers[order.get(l)] * lines.get(order.get(upTo))[0];
            }
        }
        return sum;
    }

    /** All orders, as they come in a dictionary: the first with the least sum. */
    private List<Integer> best(List<int[]> lines, int[] callers, List<Integer> head, List<Integer> found) {
        if (head.size() == lines.size()) {
            return found == null || cost(lines, callers, head) < cost(lines, callers, found)
                ? new ArrayList<>(head) : found;
        }
        List<Integer> least = found;
        for (int l = 0; l < lines.size(); l++) {
            if (!head.contains(l)) {
                head.add(l);
                least = best(lines, callers, head, least);
                head.remove(head.size() - 1);
            }
        }
        return least;
    }

    int order(int place, int i) {
        if (!isMenu(place) || i < -2) {
            return BAD;
        }
        List<int[]> lines = spots.get(place).lines;
        int[] callers = callersAt(place);
        List<Integer> standing = new ArrayList<>();
        for (int l = 0; l < lines.size(); l++) {
            standing.add(l);
        }
        List<Integer> order = best(lines, callers, new ArrayList<>(), null);
        if (i < 0) {
            return cost(lines, callers, i == -1 ? standing : order);
        }
        return i < order.size() ? order.get(i) : NONE;
    }

    int arrange(int place) {
        if (!isMenu(place)) {
            return BAD;
        }
        Spot s = spots.get(place);
        List<int[]> lines = new ArrayList<>();
        for (int l : best(s.lines, callersAt(place), new ArrayList<>(), null)) {
            lines.add(s.lines.get(l));
        }
        s.lines = lines;
        return 0;
    }

    int wish(int k, int ticks, int callers) {
        if (!in(k, 0, 7) || !in(ticks, 1, 200) || !in(callers, 0, 1000)) {
            return BAD;
        }
        wishes[k] = new int[] {ticks, callers};
        return 0;
    }

    private int callersOf(int set) {
        int sum = 0;
        for (int k = 0; k < 8; k++) {
            sum += has(set, k) ? wishes[k][1] : 0;
        }
        return sum;
    }

    /** All menus of a set; the first in dictionary order with the least cost is kept. */
    private void menusOf(int set, int rest, int lines, int costSoFar, List<Integer> head, int groupTicks) {
        if (rest == 0) {
            if (!costs.containsKey(set) || costSoFar < costs.get(set)) {
                costs.put(set, costSoFar);
                menus.put(set, new ArrayList<>(head));
            }
            return;
        }
        if (lines == 0) {
            return;
        }
        for (int part = 1; part <= rest; part++) {
            boolean one = Integer.bitCount(part) == 1;
            if ((part & rest) != part || part == set && !one) {
                continue;
            }
            int ticks = one ? wishes[Integer.numberOfTrailingZeros(part)][0] : groupTicks;
            int more = ticks * callersOf(rest) + (one ? 0 : costs.get(part));
            head.add(part);
            menusOf(set, rest - part, lines - 1, costSoFar + more, head, groupTicks);
            head.remove(head.size() - 1);
        }
    }

    int plan(int n, int groupTicks, int breadth) {
        if (!in(n, 1, 8) || !in(groupTicks, 1, 200) || !in(breadth, 2, 6)) {
            return BAD;
        }
        planWishes = n;
        menus = new HashMap<>();
        costs = new HashMap<>();
        for (int set = 1; set < 1 << n; set++) {
            menusOf(set, set, breadth, 0, new ArrayList<>(), groupTicks);
        }
        return costs.get((1 << n) - 1);
    }

    int planned(int set, int j) {
        if (!in(set, 1, 255) || j < 0) {
            return BAD;
        }
        if (planWishes == 0) {
            return NO;
        }
        if (set >= 1 << planWishes) {
            return BAD;
        }
        List<Integer> parts = menus.get(set);
        return Integer.bitCount(set) == 1 && planWishes > 1 || j >= parts.size() ? NONE : parts.get(j);
    }

    int count(int what) {
        if (!in(what, 0, 2)) {
            return BAD;
        }
        return new int[] {spots.size(), groups.size(), Arrays.stream(groups.toArray(new int[0][])).mapToInt(g -> g[5]).sum()}[what];
    }
}
