import java.util.Arrays;

/**
 * Spoken menus of a telephone house: its places, the calls that go through
 * them, groups of callers, and plans of menus.
 *
 * Words in capitals are those of the document.
 */
public final class SpokenMenus {
    public static final int BAD = -1, NO = -2, FULL = -3, NONE = -4;

    /** BAD of the calls for which -1 is an answer of its own. */
    private static final int BAD_VALUE = -1000;

    private static final int MENU = 0, DESK = 1, LEAF = 2, CLOCK = 3, ASKED = 4;

    /** How a call ends; GOING as long as it does not. */
    private static final int SERVED = 0, ENDED = 1, HUNG_UP = 2, LOST = 3, GOING = -1;

    /** The next PLACE that is none. */
    private static final int NOWHERE = -1;

    private static final int MOST_PLACES = 40;
    private static final int MOST_LINES = 6;
    private static final int MOST_TICKS = 200;
    private static final int MOST_GROUPS = 12;
    private static final int MOST_KEPT = 60;
    private static final int LAST_HOUR = 23;
    private static final int LAST_WISH = 15;
    private static final int ALL_WISHES = 65535;
    private static final int PLAN_WISHES = 8;
    private static final int PLAN_SETS = 256;

    /** The coming to a CLOCK, on end, at which a call is LOST. */
    private static final int LOST_AT = 41;

    /** Above 5001 ticks with 41 PLACES each: no call is longer. */
    private static final int MOST_STEPS = 1000000;

    /** Above the ticks of every way: 40 PLACES of at most 3900. */
    private static final int NO_WAY = 1000000;

    /** Above every COST of a PLAN, and low enough to add one to it. */
    private static final int NO_COST = 500000000;

    private final House house = new House();
    private final Ways ways = new Ways();
    private final Traps traps = new Traps();
    private final Groups groups = new Groups();
    private final Ordering ordering = new Ordering();
    private final Planner planner = new Planner();

    /** The latest call of ring(). */
    private final Walk latest = new Walk();

    /** Calls of GROUPS: apart, as they are not the latest call. */
    private final Walk trial = new Walk();

    public SpokenMenus() {
    }

    // ---- places

    public int menu(int wait, int times, int then) {
        if (!within(wait, 1, 100) || !within(times, 1, 3) || !isNext(then)) {
            return BAD;
        }
        if (house.isFull()) {
            return FULL;
        }
        Place menu = new Place(MENU, wait, 0, then, NOWHERE);
        menu.repeats = times;
        return house.add(menu);
    }

    public int line(int place, int ticks, int key, int wishes, int next) {
        Place menu = house.menuAt(place);
        if (menu == null || !within(ticks, 1, MOST_TICKS) || !within(key, 0, 11)) {
            return BAD;
        }
        if (!within(wishes, 0, ALL_WISHES) || !isNext(next) || menu.hasKey(key)) {
            return BAD;
        }
        if (menu.size >= MOST_LINES) {
            return FULL;
        }
        menu.addLine(new Line(ticks, key, wishes, next));
        return menu.size;
    }

    public int desk(int ticks, int wishes) {
        if (!within(ticks, 0, 500) || !within(wishes, 0, ALL_WISHES)) {
            return BAD;
        }
        if (house.isFull()) {
            return FULL;
        }
        return house.add(new Place(DESK, ticks, wishes, NOWHERE, NOWHERE));
    }

    public int leaf(int ticks, int wishes, int then) {
        if (!within(ticks, 1, MOST_TICKS) || !within(wishes, 0, ALL_WISHES) || !isNext(then)) {
            return BAD;
        }
        if (house.isFull()) {
            return FULL;
        }
        return house.add(new Place(LEAF, ticks, wishes, then, NOWHERE));
    }

    public int clock(int from, int to, int open, int shut) {
        if (!isHour(from) || !isHour(to) || !isNext(open) || !isNext(shut)) {
            return BAD;
        }
        if (house.isFull()) {
            return FULL;
        }
        Place clock = new Place(CLOCK, 0, 0, open, shut);
        clock.from = from;
        clock.to = to;
        return house.add(clock);
    }

    public int asked(int ticks, int figures, int tries, int right, int wrong) {
        if (!within(ticks, 1, MOST_TICKS) || !within(figures, 1, 8) || !within(tries, 1, 3)) {
            return BAD;
        }
        if (!isNext(right) || !isNext(wrong)) {
            return BAD;
        }
        if (house.isFull()) {
            return FULL;
        }
        Place asked = new Place(ASKED, ticks, 0, right, wrong);
        asked.figures = figures;
        asked.repeats = tries;
        return house.add(asked);
    }

    public int change(int place, int i, int what, int v) {
        Line line = house.lineAt(place, i);
        if (line == null || !isLineValue(what, v)) {
            return BAD_VALUE;
        }
        int was;
        switch (what) {
            case 0:
                was = line.ticks;
                line.ticks = v;
                return was;
            case 1:
                was = line.wishes;
                line.wishes = v;
                return was;
            default:
                was = line.next;
                line.next = v;
                return was;
        }
    }

    public int swap(int place, int i, int j) {
        Place menu = house.menuAt(place);
        Line first = house.lineAt(place, i);
        Line second = house.lineAt(place, j);
        if (menu == null || first == null || second == null) {
            return BAD;
        }
        menu.lines[i] = second;
        menu.lines[j] = first;
        return 0;
    }

    public int place(int p, int what) {
        Place place = house.at(p);
        if (place == null) {
            return BAD_VALUE;
        }
        switch (what) {
            case 0:
                return place.kind;
            case 1:
                return place.ticks;
            case 2:
                return place.size;
            case 3:
                return place.next;
            case 4:
                return place.other;
            case 5:
                return place.served;
            default:
                return BAD_VALUE;
        }
    }

    public int lineOf(int place, int i, int what) {
        Line line = house.lineAt(place, i);
        if (line == null) {
            return BAD_VALUE;
        }
        switch (what) {
            case 0:
                return line.ticks;
            case 1:
                return line.key;
            case 2:
                return line.wishes;
            case 3:
                return line.next;
            default:
                return BAD_VALUE;
        }
    }

    // ---- calls

    public int ring(int wish, int number, int patience, int hour, int knows) {
        if (!isCaller(wish, number, patience, hour, knows)) {
            return BAD;
        }
        if (house.size == 0) {
            return NO;
        }
        latest.follow(house, ways, new Caller(wish, number, patience, hour, knows == 1));
        return latest.end;
    }

    public int call(int what) {
        if (!within(what, 0, 3)) {
            return BAD;
        }
        if (!latest.was) {
            return NONE;
        }
        switch (what) {
            case 0:
                return latest.ticks;
            case 1:
                return latest.last;
            case 2:
                return latest.comings;
            default:
                return latest.presses;
        }
    }

    public int came(int i) {
        return keptAt(latest.cameTo, latest.comings, i);
    }

    public int pressed(int i) {
        return keptAt(latest.keys, latest.presses, i);
    }

    public int fewest(int place, int wish, int number, int hour) {
        if (house.at(place) == null || !isCaller(wish, number, 1, hour, 1)) {
            return BAD;
        }
        ways.measure(house, new Caller(wish, number, 1, hour, true));
        int ticks = ways.ticksFrom(place);
        return ticks < NO_WAY ? ticks : NONE;
    }

    public int trap(int hour, int i) {
        if (!isHour(hour) || i < -1) {
            return BAD;
        }
        if (house.size == 0) {
            return NO;
        }
        traps.look(house, hour);
        return i == -1 ? traps.howMany(house) : traps.numberOf(house, i);
    }

    // ---- groups

    public int group(int many, int wish, int number, int patience, int hour, int knows) {
        if (!within(many, 1, 1000) || !isCaller(wish, number, patience, hour, knows)) {
            return BAD;
        }
        if (groups.size >= MOST_GROUPS) {
            return FULL;
        }
        groups.add(many, new Caller(wish, number, patience, hour, knows == 1));
        return groups.size;
    }

    public int noGroups() {
        int were = groups.size;
        groups.size = 0;
        return were;
    }

    public int sum(int what) {
        if (!within(what, 0, 4)) {
            return BAD;
        }
        if (house.size == 0) {
            return NO;
        }
        int sum = 0;
        for (int g = 0; g < groups.size; g++) {
            trial.follow(house, ways, groups.callers[g]);
            if (what == 0) {
                sum += groups.many[g] * trial.ticks;
            } else if (trial.end == what - 1) {
                sum += groups.many[g];
            }
        }
        return sum;
    }

    public int hung(int place) {
        if (house.at(place) == null) {
            return BAD;
        }
        int sum = 0;
        for (int g = 0; g < groups.size; g++) {
            trial.follow(house, ways, groups.callers[g]);
            if (trial.end == HUNG_UP && trial.last == place) {
                sum += groups.many[g];
            }
        }
        return sum;
    }

    public int order(int place, int i) {
        Place menu = house.menuAt(place);
        if (menu == null || i < -2) {
            return BAD;
        }
        if (i >= menu.size) {
            return NONE;
        }
        countListeners(place, menu);
        if (i == -1) {
            return ordering.costAsTheyStand(menu);
        }
        ordering.sort(menu);
        return i == -2 ? ordering.costSorted(menu) : ordering.sorted[i];
    }

    public int arrange(int place) {
        Place menu = house.menuAt(place);
        if (menu == null) {
            return BAD;
        }
        countListeners(place, menu);
        ordering.sort(menu);
        ordering.putInOrder(menu);
        return 0;
    }

    // ---- plans

    public int wish(int k, int ticks, int callers) {
        if (!within(k, 0, PLAN_WISHES - 1) || !within(ticks, 1, MOST_TICKS) || !within(callers, 0, 1000)) {
            return BAD;
        }
        planner.wishTicks[k] = ticks;
        planner.wishCallers[k] = callers;
        return 0;
    }

    public int plan(int n, int groupTicks, int breadth) {
        if (!within(n, 1, PLAN_WISHES) || !within(groupTicks, 1, MOST_TICKS) || !within(breadth, 2, 6)) {
            return BAD;
        }
        return planner.make(n, groupTicks, breadth);
    }

    public int planned(int set, int j) {
        if (!within(set, 1, PLAN_SETS - 1) || j < 0) {
            return BAD;
        }
        if (planner.all == 0) {
            return NO;
        }
        return (set & ~planner.all) != 0 ? BAD : planner.partOf(set, j);
    }

    public int count(int what) {
        switch (what) {
            case 0:
                return house.size;
            case 1:
                return groups.size;
            case 2:
                return groups.howManyCallers();
            default:
                return BAD;
        }
    }

    // ---- what several calls use

    private static boolean within(int v, int least, int most) {
        return v >= least && v <= most;
    }

    private static boolean isNext(int place) {
        return within(place, NOWHERE, MOST_PLACES - 1);
    }

    private static boolean isHour(int hour) {
        return within(hour, 0, LAST_HOUR);
    }

    private static boolean isCaller(int wish, int number, int patience, int hour, int knows) {
        return within(wish, 0, LAST_WISH) && within(number, 0, 99999999)
            && within(patience, 1, 5000) && isHour(hour) && within(knows, 0, 1);
    }

    private static boolean isLineValue(int what, int v) {
        switch (what) {
            case 0:
                return within(v, 1, MOST_TICKS);
            case 1:
                return within(v, 0, ALL_WISHES);
            case 2:
                return isNext(v);
            default:
                return false;
        }
    }

    private static void clear(boolean[] marks) {
        for (int i = 0; i < marks.length; i++) {
            marks[i] = false;
        }
    }

    private static int keptAt(int[] kept, int many, int i) {
        if (i < 0) {
            return BAD;
        }
        return i < many && i < kept.length ? kept[i] : NONE;
    }

    /** The callers of each LINE, of GROUPS that come to a MENU and listen. */
    private void countListeners(int place, Place menu) {
        ordering.forget();
        for (int g = 0; g < groups.size; g++) {
            Caller caller = groups.callers[g];
            if (caller.knows) {
                continue;
            }
            trial.goThrough(house, null, caller);
            if (trial.hasSeen(place)) {
                ordering.addCallers(menu.firstLineFor(caller.wish), groups.many[g]);
            }
        }
    }

    /** A LINE of a MENU. */
    private static final class Line {
        int ticks;
        final int key;
        int wishes;
        int next;

        Line(int ticks, int key, int wishes, int next) {
            this.ticks = ticks;
            this.key = key;
            this.wishes = wishes;
            this.next = next;
        }

        boolean speaksOf(int wish) {
            return (wishes >> wish & 1) != 0;
        }
    }

    /** A PLACE of any KIND; what its KIND does not have is 0, or NOWHERE. */
    private static final class Place {
        final int kind;
        final int ticks;
        final int served;
        final int next;
        final int other;
        final Line[] lines;
        int size = 0;
        /** TIMES of a MENU, TRIES of ASKED. */
        int repeats = 0;
        int figures = 0;
        int from = 0;
        int to = 0;

        Place(int kind, int ticks, int served, int next, int other) {
            this.kind = kind;
            this.ticks = ticks;
            this.served = served;
            this.next = next;
            this.other = other;
            this.lines = new Line[kind == MENU ? MOST_LINES : 0];
        }

        void addLine(Line line) {
            if (size < lines.length) {
                lines[size] = line;
                size++;
            }
        }

        boolean hasKey(int key) {
            for (int i = 0; i < size; i++) {
                if (lines[i].key == key) {
                    return true;
                }
            }
            return false;
        }

        /** The first LINE that speaks of a WISH; -1: none does. */
        int firstLineFor(int wish) {
            for (int i = 0; i < size; i++) {
                if (lines[i].speaksOf(wish)) {
                    return i;
                }
            }
            return -1;
        }

        int ticksOfLines(int many) {
            int sum = 0;
            for (int i = 0; i < many && i < size; i++) {
                sum += lines[i].ticks;
            }
            return sum;
        }

        /** The ticks at a MENU until THEN. */
        int ticksOfHearingAll() {
            return repeats * (ticksOfLines(size) + ticks);
        }

        boolean serves(int wish) {
            return (served >> wish & 1) != 0;
        }

        int nextAtHour(int hour) {
            boolean open = from < to ? hour >= from && hour < to
                : from == to || hour >= from || hour < to;
            return open ? next : other;
        }

        boolean isRight(int number) {
            int rest = number;
            int sum = 0;
            int weight = 1;
            for (int i = 0; i < figures; i++) {
                sum += rest % 10 * weight;
                rest /= 10;
                weight = 4 - weight;
            }
            return rest == 0 && sum % 10 == 0;
        }

        int nextForNumber(int number) {
            return isRight(number) ? next : other;
        }

        /** The ticks at ASKED; who KNOWS does not wait for those of a try. */
        int ticksOfTries(int number, boolean knows) {
            int each = knows ? figures : ticks + figures;
            return isRight(number) ? each : repeats * each;
        }

        /** How many next PLACES it has at an HOUR. */
        int exits() {
            switch (kind) {
                case MENU:
                    return size + 1;
                case DESK:
                    return 0;
                case ASKED:
                    return 2;
                default:
                    return 1;
            }
        }

        int exitAt(int i, int hour) {
            if (kind == CLOCK) {
                return nextAtHour(hour);
            }
            if (kind == ASKED && i == 1) {
                return other;
            }
            return i >= 0 && i < size ? lines[i].next : next;
        }
    }

    /** All PLACES, by their numbers. */
    private static final class House {
        final Place[] places = new Place[MOST_PLACES];
        int size = 0;

        boolean isFull() {
            return size >= MOST_PLACES;
        }

        int add(Place place) {
            if (isFull()) {
                return FULL;
            }
            places[size] = place;
            size++;
            return size - 1;
        }

        /** null: there is no such PLACE. */
        Place at(int p) {
            return p >= 0 && p < size ? places[p] : null;
        }

        /** null: there is no such MENU. */
        Place menuAt(int p) {
            Place place = at(p);
            return place != null && place.kind == MENU ? place : null;
        }

        /** null: there is no such LINE. */
        Line lineAt(int p, int i) {
            Place menu = menuAt(p);
            return menu != null && i >= 0 && i < menu.size ? menu.lines[i] : null;
        }
    }

    private static final class Caller {
        final int wish;
        final int number;
        final int patience;
        final int hour;
        final boolean knows;

        Caller(int wish, int number, int patience, int hour, boolean knows) {
            this.wish = wish;
            this.number = number;
            this.patience = patience;
            this.hour = hour;
            this.knows = knows;
        }
    }

    /** The fewest ticks of a CALLER who KNOWS, from each PLACE on. */
    private static final class Ways {
        private final int[] ticks = new int[MOST_PLACES];

        /** A way goes to no PLACE twice: so many rounds as PLACES settle all. */
        void measure(House house, Caller caller) {
            Arrays.fill(ticks, NO_WAY);
            boolean changed = true;
            for (int round = 0; round < house.size && changed; round++) {
                changed = false;
                for (int p = house.size - 1; p >= 0; p--) {
                    int found = leastAt(house.places[p], caller);
                    if (found < ticks[p]) {
                        ticks[p] = found;
                        changed = true;
                    }
                }
            }
        }

        /** NO_WAY, if there is no such PLACE: none is measured beyond the last. */
        int ticksFrom(int place) {
            return place >= 0 && place < MOST_PLACES ? ticks[place] : NO_WAY;
        }

        /** The LINE of the best way at a MENU, the PLACE of that number; -1: it goes to THEN. */
        int bestLine(Place menu, int number) {
            int least = ticksFrom(number);
            for (int i = 0; i < menu.size; i++) {
                if (1 + ticksFrom(menu.lines[i].next) == least) {
                    return i;
                }
            }
            return -1;
        }

        private int leastAt(Place place, Caller caller) {
            switch (place.kind) {
                case MENU:
                    return leastAtMenu(place);
                case DESK:
                    return place.serves(caller.wish) ? place.ticks : NO_WAY;
                case LEAF:
                    return place.serves(caller.wish) ? place.ticks : place.ticks + ticksFrom(place.next);
                case CLOCK:
                    return ticksFrom(place.nextAtHour(caller.hour));
                default:
                    return place.ticksOfTries(caller.number, true)
                        + ticksFrom(place.nextForNumber(caller.number));
            }
        }

        private int leastAtMenu(Place menu) {
            int least = menu.ticksOfHearingAll() + ticksFrom(menu.next);
            for (int i = 0; i < menu.size; i++) {
                least = Math.min(least, 1 + ticksFrom(menu.lines[i].next));
            }
            return least;
        }
    }

    /** One call, from PLACE 0 to its end. */
    private static final class Walk {
        boolean was = false;
        int end = GOING;
        int ticks = 0;
        int last = 0;
        int comings = 0;
        int presses = 0;
        final int[] cameTo = new int[MOST_KEPT];
        final int[] keys = new int[MOST_KEPT];
        private final boolean[] seen = new boolean[MOST_PLACES];
        private int clocksOnEnd = 0;

        void follow(House house, Ways ways, Caller caller) {
            boolean knowsWay = false;
            if (caller.knows) {
                ways.measure(house, caller);
                knowsWay = ways.ticksFrom(0) < NO_WAY;
            }
            goThrough(house, knowsWay ? ways : null, caller);
        }

        /** By ways that are measured; without them (null) as who does not know. */
        void goThrough(House house, Ways ways, Caller caller) {
            begin();
            int next = 0;
            for (int step = 0; step < MOST_STEPS && end == GOING; step++) {
                Place place = house.at(next);
                if (place == null) {
                    end = ENDED;
                } else {
                    come(next, place.kind);
                    next = pass(place, ways, caller);
                }
            }
        }

        boolean hasSeen(int place) {
            return place >= 0 && place < MOST_PLACES && seen[place];
        }

        private void begin() {
            was = true;
            end = GOING;
            ticks = 0;
            last = 0;
            comings = 0;
            presses = 0;
            clocksOnEnd = 0;
            clear(seen);
        }

        private void come(int place, int kind) {
            last = place;
            if (place >= 0 && place < MOST_PLACES) {
                seen[place] = true;
            }
            if (comings < MOST_KEPT) {
                cameTo[comings] = place;
            }
            comings++;
            clocksOnEnd = kind == CLOCK ? clocksOnEnd + 1 : 0;
            if (clocksOnEnd >= LOST_AT) {
                end = LOST;
            }
        }

        /** The next PLACE, if the call does not end here. */
        private int pass(Place place, Ways ways, Caller caller) {
            switch (place.kind) {
                case MENU:
                    return passMenu(place, ways, caller);
                case DESK:
                    spend(place.ticks, caller);
                    finish(place.serves(caller.wish) ? SERVED : ENDED);
                    return NOWHERE;
                case LEAF:
                    spend(place.ticks, caller);
                    if (place.serves(caller.wish)) {
                        finish(SERVED);
                    }
                    return place.next;
                case CLOCK:
                    return place.nextAtHour(caller.hour);
                default:
                    spend(place.ticksOfTries(caller.number, ways != null), caller);
                    return place.nextForNumber(caller.number);
            }
        }

        private int passMenu(Place menu, Ways ways, Caller caller) {
            int i = ways != null ? ways.bestLine(menu, last) : menu.firstLineFor(caller.wish);
            if (i < 0 || i >= menu.size) {
                spend(menu.ticksOfHearingAll(), caller);
                return menu.next;
            }
            if (ways == null) {
                spend(menu.ticksOfLines(i + 1), caller);
            }
            press(menu.lines[i].key, caller);
            return menu.lines[i].next;
        }

        private void spend(int more, Caller caller) {
            ticks += more;
            if (ticks > caller.patience) {
                ticks = caller.patience;
                end = HUNG_UP;
            }
        }

        /** The KEY counts also if its own tick is the one too many. */
        private void press(int key, Caller caller) {
            if (end != GOING) {
                return;
            }
            if (presses < MOST_KEPT) {
                keys[presses] = key;
            }
            presses++;
            spend(1, caller);
        }

        /** HUNG UP comes ahead of SERVED and ENDED. */
        private void finish(int how) {
            if (end == GOING) {
                end = how;
            }
        }
    }

    /** PLACES that PLACE 0 leads to, and from which none leads to a DESK. */
    private static final class Traps {
        private final boolean[] reached = new boolean[MOST_PLACES];
        private final boolean[] leadsToDesk = new boolean[MOST_PLACES];

        void look(House house, int hour) {
            clear(reached);
            clear(leadsToDesk);
            reached[0] = true;
            boolean changed = true;
            for (int round = 0; round <= house.size && changed; round++) {
                changed = false;
                for (int p = 0; p < house.size; p++) {
                    if (spread(house.places[p], p, hour)) {
                        changed = true;
                    }
                }
            }
        }

        int howMany(House house) {
            int many = 0;
            for (int p = 0; p < house.size; p++) {
                if (isTrap(p)) {
                    many++;
                }
            }
            return many;
        }

        int numberOf(House house, int i) {
            int before = 0;
            for (int p = 0; p < house.size; p++) {
                if (isTrap(p)) {
                    if (before == i) {
                        return p;
                    }
                    before++;
                }
            }
            return NONE;
        }

        private boolean isTrap(int p) {
            return reached[p] && !leadsToDesk[p];
        }

        /** Whether that changed anything. */
        private boolean spread(Place place, int p, int hour) {
            boolean changed = false;
            boolean leads = place.kind == DESK;
            for (int i = 0; i < place.exits(); i++) {
                int next = place.exitAt(i, hour);
                if (next < 0 || next >= MOST_PLACES) {
                    continue;
                }
                leads = leads || leadsToDesk[next];
                if (reached[p] && !reached[next]) {
                    reached[next] = true;
                    changed = true;
                }
            }
            if (leads && !leadsToDesk[p]) {
                leadsToDesk[p] = true;
                changed = true;
            }
            return changed;
        }
    }

    private static final class Groups {
        final Caller[] callers = new Caller[MOST_GROUPS];
        final int[] many = new int[MOST_GROUPS];
        int size = 0;

        void add(int howMany, Caller caller) {
            if (size < MOST_GROUPS) {
                callers[size] = caller;
                many[size] = howMany;
                size++;
            }
        }

        int howManyCallers() {
            int sum = 0;
            for (int g = 0; g < size; g++) {
                sum += many[g];
            }
            return sum;
        }
    }

    /** THE ORDER of a MENU, for the callers that count at its LINES. */
    private static final class Ordering {
        private final int[] callers = new int[MOST_LINES];
        final int[] sorted = new int[MOST_LINES];
        private final Line[] stood = new Line[MOST_LINES];

        void forget() {
            Arrays.fill(callers, 0);
        }

        void addCallers(int line, int many) {
            if (line >= 0 && line < MOST_LINES) {
                callers[line] += many;
            }
        }

        /** By insertion from behind: of like LINES the one that stood ahead stays so. */
        void sort(Place menu) {
            for (int i = 0; i < menu.size; i++) {
                int at = i;
                while (at > 0 && goesAhead(menu, i, sorted[at - 1])) {
                    sorted[at] = sorted[at - 1];
                    at--;
                }
                sorted[at] = i;
            }
        }

        int costAsTheyStand(Place menu) {
            int heard = 0;
            int cost = 0;
            for (int i = 0; i < menu.size; i++) {
                heard += menu.lines[i].ticks;
                cost += callers[i] * heard;
            }
            return cost;
        }

        int costSorted(Place menu) {
            int heard = 0;
            int cost = 0;
            for (int i = 0; i < menu.size; i++) {
                heard += menu.lines[sorted[i]].ticks;
                cost += callers[sorted[i]] * heard;
            }
            return cost;
        }

        void putInOrder(Place menu) {
            for (int i = 0; i < menu.size; i++) {
                stood[i] = menu.lines[i];
            }
            for (int i = 0; i < menu.size; i++) {
                menu.lines[i] = stood[sorted[i]];
            }
        }

        private boolean goesAhead(Place menu, int a, int b) {
            return menu.lines[a].ticks * callers[b] < menu.lines[b].ticks * callers[a];
        }
    }

    /** The latest PLAN, and the WISHES for the next one. A set is told as bits. */
    private static final class Planner {
        final int[] wishTicks = new int[PLAN_WISHES];
        final int[] wishCallers = new int[PLAN_WISHES];
        /** All WISHES of the latest PLAN; 0: there is none. */
        int all = 0;
        private int breadth = 0;
        private int groupTicks = 0;
        private final int[] callersOf = new int[PLAN_SETS];
        private final int[] menuCost = new int[PLAN_SETS];
        private final int[] menuFirst = new int[PLAN_SETS];
        /** By how many LINES may follow, then by the set that is left for them. */
        private final int[][] restCost = new int[MOST_LINES][PLAN_SETS];
        private final int[][] restFirst = new int[MOST_LINES][PLAN_SETS];

        Planner() {
            Arrays.fill(wishTicks, 1);
            Arrays.fill(restCost[0], NO_COST);
            restCost[0][0] = 0;
        }

        /** THE LEAST COST of a PLAN. Parts of a set are lesser numbers: they are ready ahead of it. */
        int make(int n, int ticksOfGroup, int mostLines) {
            groupTicks = ticksOfGroup;
            breadth = mostLines;
            all = (1 << n) - 1;
            for (int set = 1; set <= all; set++) {
                int lowest = Integer.numberOfTrailingZeros(set);
                callersOf[set] = callersOf[set & (set - 1)] + wishCallers[lowest];
                planMenu(set);
                for (int left = 1; left < breadth; left++) {
                    planRest(set, left);
                }
            }
            return menuCost[all];
        }

        /** The set of LINE j of the MENU of a set. */
        int partOf(int set, int j) {
            if (j >= breadth || isOne(set) && set != all) {
                return NONE;
            }
            int part = menuFirst[set];
            int rest = set & ~part;
            for (int i = 1; i <= j && rest != 0; i++) {
                part = restFirst[breadth - i][rest];
                rest &= ~part;
                if (i == j) {
                    return part;
                }
            }
            return j == 0 ? part : NONE;
        }

        private static boolean isOne(int set) {
            return (set & (set - 1)) == 0;
        }

        /** From the greatest part down, so that of like ones the least is kept. */
        private void planMenu(int set) {
            menuFirst[set] = set;
            menuCost[set] = isOne(set) ? costOfLine(set, set) : NO_COST;
            for (int part = (set - 1) & set; part > 0; part = (part - 1) & set) {
                int cost = costOfLine(part, set) + restCost[breadth - 1][set & ~part];
                if (cost <= menuCost[set]) {
                    menuCost[set] = cost;
                    menuFirst[set] = part;
                }
            }
        }

        /** As planMenu, but a LINE may be for all that is left. */
        private void planRest(int set, int left) {
            int least = NO_COST;
            for (int part = set; part > 0; part = (part - 1) & set) {
                int cost = costOfLine(part, set) + restCost[left - 1][set & ~part];
                if (cost <= least) {
                    least = cost;
                    restFirst[left][set] = part;
                }
            }
            restCost[left][set] = least;
        }

        /** The COST of a LINE for a part, with all that is left at it and behind it. */
        private int costOfLine(int part, int left) {
            if (isOne(part)) {
                return wishTicks[Integer.numberOfTrailingZeros(part)] * callersOf[left];
            }
            return groupTicks * callersOf[left] + menuCost[part];
        }
    }
}
