import java.util.Arrays;

/** One call of the class by its name, for runs that are told as rows. */
record Call(String name, int... a) {
    static final String[] NAMES = {
        "menu", "line", "desk", "leaf", "clock", "asked", "change", "swap", "place", "lineOf",
        "ring", "call", "came", "pressed", "fewest", "trap",
        "group", "noGroups", "sum", "hung", "order", "arrange",
        "wish", "plan", "planned", "count",
    };

    static Call of(String name, int... a) {
        return new Call(name, a);
    }

    int on(SpokenMenus x) {
        switch (name) {
            case "menu": return x.menu(a[0], a[1], a[2]);
            case "line": return x.line(a[0], a[1], a[2], a[3], a[4]);
            case "desk": return x.desk(a[0], a[1]);
            case "leaf": return x.leaf(a[0], a[1], a[2]);
            case "clock": return x.clock(a[0], a[1], a[2], a[3]);
            case "asked": return x.asked(a[0], a[1], a[2], a[3], a[4]);
            case "change": return x.change(a[0], a[1], a[2], a[3]);
            case "swap": return x.swap(a[0], a[1], a[2]);
            case "place": return x.place(a[0], a[1]);
            case "lineOf": return x.lineOf(a[0], a[1], a[2]);
            case "ring": return x.ring(a[0], a[1], a[2], a[3], a[4]);
            case "call": return x.call(a[0]);
            case "came": return x.came(a[0]);
            case "pressed": return x.pressed(a[0]);
            case "fewest": return x.fewest(a[0], a[1], a[2], a[3]);
            case "trap": return x.trap(a[0], a[1]);
            case "group": return x.group(a[0], a[1], a[2], a[3], a[4], a[5]);
            case "noGroups": return x.noGroups();
            case "sum": return x.sum(a[0]);
            case "hung": return x.hung(a[0]);
            case "order": return x.order(a[0], a[1]);
            case "arrange": return x.arrange(a[0]);
            case "wish": return x.wish(a[0], a[1], a[2]);
            case "plan": return x.plan(a[0], a[1], a[2]);
            case "planned": return x.planned(a[0], a[1]);
            case "count": return x.count(a[0]);
            default: throw new IllegalArgumentException(name);
        }
    }

    int on(Model m) {
        switch (name) {
            case "menu": return m.menu(a[0], a[1], a[2]);
            case "line": return m.line(a[0], a[1], a[2], a[3], a[4]);
            case "desk": return m.desk(a[0], a[1]);
            case "leaf": return m.leaf(a[0], a[1], a[2]);
            case "clock": return m.clock(a[0], a[1], a[2], a[3]);
            case "asked": return m.asked(a[0], a[1], a[2], a[3], a[4]);
            case "change": return m.change(a[0], a[1], a[2], a[3]);
            case "swap": return m.swap(a[0], a[1], a[2]);
            case "place": return m.place(a[0], a[1]);
            case "lineOf": return m.lineOf(a[0], a[1], a[2]);
            case "ring": return m.ring(a[0], a[1], a[2], a[3], a[4]);
            case "call": return m.call(a[0]);
            case "came": return m.came(a[0]);
            case "pressed": return m.pressed(a[0]);
            case "fewest": return m.fewest(a[0], a[1], a[2], a[3]);
            case "trap": return m.trap(a[0], a[1]);
            case "group": return m.group(a[0], a[1], a[2], a[3], a[4], a[5]);
            case "noGroups": return m.noGroups();
            case "sum": return m.sum(a[0]);
            case "hung": return m.hung(a[0]);
            case "order": return m.order(a[0], a[1]);
            case "arrange": return m.arrange(a[0]);
            case "wish": return m.wish(a[0], a[1], a[2]);
            case "plan": return m.plan(a[0], a[1], a[2]);
            case "planned": return m.planned(a[0], a[1]);
            case "count": return m.count(a[0]);
            default: throw new IllegalArgumentException(name);
        }
    }

    @Override
    public String toString() {
        return name + Arrays.toString(a);
    }
}
