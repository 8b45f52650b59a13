/** Rows of answers that several tests ask for. */
final class Ask {
    private Ask() {
    }

    static SpokenMenus house(Call... calls) {
        SpokenMenus x = new SpokenMenus();
        for (Call call : calls) {
            call.on(x);
        }
        return x;
    }

    /** All that place() tells. */
    static int[] told(SpokenMenus x, int p) {
        return new int[] {x.place(p, 0), x.place(p, 1), x.place(p, 2), x.place(p, 3), x.place(p, 4), x.place(p, 5)};
    }

    /** All that lineOf() tells. */
    static int[] lineTold(SpokenMenus x, int place, int i) {
        return new int[] {x.lineOf(place, i, 0), x.lineOf(place, i, 1), x.lineOf(place, i, 2), x.lineOf(place, i, 3)};
    }

    /** The keys of a menu's lines, in order. */
    static int[] keysOf(SpokenMenus x, int place) {
        int[] keys = new int[x.place(place, 2)];
        for (int i = 0; i < keys.length; i++) {
            keys[i] = x.lineOf(place, i, 1);
        }
        return keys;
    }

    /** How a call ends, then call(0) to call(3). */
    static int[] rung(SpokenMenus x, int wish, int number, int patience, int hour, int knows) {
        int end = x.ring(wish, number, patience, hour, knows);
        return new int[] {end, x.call(0), x.call(1), x.call(2), x.call(3)};
    }

    static int[] trapsOf(SpokenMenus x, int hour) {
        int[] row = new int[Math.max(0, x.trap(hour, -1))];
        for (int i = 0; i < row.length; i++) {
            row[i] = x.trap(hour, i);
        }
        return row;
    }

    static int[] sums(SpokenMenus x) {
        return new int[] {x.sum(0), x.sum(1), x.sum(2), x.sum(3), x.sum(4)};
    }

    /** The best order of all lines of a menu. */
    static int[] ordered(SpokenMenus x, int place) {
        int[] row = new int[x.place(place, 2)];
        for (int i = 0; i < row.length; i++) {
            row[i] = x.order(place, i);
        }
        return row;
    }

    /** The sets of all lines of a planned menu. */
    static int[] planLines(SpokenMenus x, int set) {
        int many = 0;
        while (many < 7 && x.planned(set, many) >= 0) {
            many++;
        }
        int[] row = new int[many];
        for (int j = 0; j < many; j++) {
            row[j] = x.planned(set, j);
        }
        return row;
    }
}
