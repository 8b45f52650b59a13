/**
 * Bounds of promises 1 to 11, a test for each sentence of the document that
 * names one. The sentence stands above its test.
 */
public final class PlacesBoundsTest {
    private static final int BAD = SpokenMenus.BAD;
    private static final int FULL = SpokenMenus.FULL;
    private static final int NO = SpokenMenus.NO;
    private static final int NONE = SpokenMenus.NONE;
    private static final int NOT = -1000;
    private static final int ENDED = 1;
    private static final Due d = new Due();

    public static void main(String[] args) {
        newObject();
        placesAsTheyCome();
        mostPlaces();
        badAheadOfFull();
        menuNumbers();
        menuTakesEffect();
        menuWithoutLines();
        lineNumbers();
        linePlaces();
        keysOnce();
        mostLines();
        deskNumbers();
        leafNumbers();
        clockNumbers();
        askedNumbers();
        nextPlaces();
        changeNumbers();
        changeTakesEffect();
        swapNumbers();
        placeNumbers();
        placeOfEachKind();
        lineOfNumbers();
        lastCall();
        d.end();
    }

    /** One place of each kind, by the numbers of the kinds. */
    private static SpokenMenus ofEachKind() {
        return Ask.house(Call.of("menu", 1, 1, -1), Call.of("desk", 0, 0), Call.of("leaf", 1, 0, -1),
            Call.of("clock", 0, 0, -1, -1), Call.of("asked", 1, 1, 1, -1, -1));
    }

    /** A menu at place 0 with so many lines; line i has 10 + i ticks, key i, wish i, next place i. */
    private static SpokenMenus menuOf(int lines) {
        SpokenMenus x = new SpokenMenus();
        x.menu(1, 1, -1);
        for (int i = 0; i < lines; i++) {
            x.line(0, 10 + i, i, 1 << i, i);
        }
        return x;
    }

    private static SpokenMenus desks(int many) {
        SpokenMenus x = new SpokenMenus();
        for (int p = 0; p < many; p++) {
            x.desk(p, p);
        }
        return x;
    }

    private static int ticksOfRing(SpokenMenus x, int wish) {
        x.ring(wish, 0, 5000, 0, 0);
        return x.call(0);
    }

    /** "No PLACES, GROUPS; no PLAN." */
    private static void newObject() {
        Object[][] due = {
            {0, Call.of("count", 0)}, {0, Call.of("count", 1)}, {0, Call.of("count", 2)},
            {NOT, Call.of("place", 0, 0)}, {NOT, Call.of("lineOf", 0, 0, 0)}, {NOT, Call.of("change", 0, 0, 0, 1)},
            {BAD, Call.of("line", 0, 1, 0, 0, -1)}, {BAD, Call.of("swap", 0, 0, 0)},
            {NO, Call.of("ring", 0, 0, 1, 0, 0)}, {NO, Call.of("ring", 0, 0, 1, 0, 1)},
            {NONE, Call.of("call", 0)}, {NONE, Call.of("came", 0)}, {NONE, Call.of("pressed", 0)},
            {BAD, Call.of("fewest", 0, 0, 0, 0)}, {NO, Call.of("trap", 0, -1)}, {NO, Call.of("trap", 0, 0)},
            {0, Call.of("noGroups")}, {NO, Call.of("sum", 0)}, {NO, Call.of("sum", 4)}, {BAD, Call.of("hung", 0)},
            {BAD, Call.of("order", 0, -1)}, {BAD, Call.of("arrange", 0)},
            {NO, Call.of("planned", 1, 0)}, {NO, Call.of("planned", 255, 7)},
            {0, Call.of("menu", 1, 1, -1)}, {0, Call.of("desk", 0, 0)}, {0, Call.of("leaf", 1, 0, -1)},
            {0, Call.of("clock", 0, 0, -1, -1)}, {0, Call.of("asked", 1, 1, 1, -1, -1)},
            {1, Call.of("group", 1, 0, 0, 1, 0, 0)}, {0, Call.of("wish", 0, 1, 0)}, {0, Call.of("plan", 8, 200, 2)},
        };
        for (Object[] row : due) {
            Call call = (Call) row[1];
            d.due("first of all, " + call, call.on(new SpokenMenus()), (int) row[0]);
        }
    }

    /** "PLACES 0, 1, .. as they come"; "each answers its number." */
    private static void placesAsTheyCome() {
        SpokenMenus x = new SpokenMenus();
        d.due("a menu first", x.menu(1, 1, -1), 0);
        d.due("a desk", x.desk(0, 0), 1);
        d.due("a leaf", x.leaf(1, 0, -1), 2);
        d.due("a clock", x.clock(0, 0, -1, -1), 3);
        d.due("asked", x.asked(1, 1, 1, -1, -1), 4);
        d.due("a menu again", x.menu(1, 1, -1), 5);
        for (int kind = 0; kind < 6; kind++) {
            d.due("kind of place " + kind, x.place(kind, 0), kind % 5);
        }
    }

    private static final Call[] RIGHT_PLACES = {
        Call.of("menu", 1, 1, -1), Call.of("desk", 0, 0), Call.of("leaf", 1, 0, -1),
        Call.of("clock", 0, 0, -1, -1), Call.of("asked", 1, 1, 1, -1, -1),
    };

    private static final Call[] WRONG_PLACES = {
        Call.of("menu", 0, 1, -1), Call.of("menu", 1, 4, -1), Call.of("menu", 1, 1, 40),
        Call.of("desk", 501, 0), Call.of("desk", 0, 65536),
        Call.of("leaf", 0, 0, -1), Call.of("leaf", 1, -1, -1), Call.of("leaf", 1, 0, -2),
        Call.of("clock", 24, 0, -1, -1), Call.of("clock", 0, -1, -1, -1),
        Call.of("clock", 0, 0, 40, -1), Call.of("clock", 0, 0, -1, -2),
        Call.of("asked", 201, 1, 1, -1, -1), Call.of("asked", 1, 9, 1, -1, -1), Call.of("asked", 1, 1, 0, -1, -1),
        Call.of("asked", 1, 1, 1, 40, -1), Call.of("asked", 1, 1, 1, -1, 40),
    };

    /** "40 at most"; "FULL: 40." */
    private static void mostPlaces() {
        for (Call call : RIGHT_PLACES) {
            SpokenMenus x = desks(39);
            d.due("the 40th place, " + call, call.on(x), 39);
            d.due("then there are 40", x.count(0), 40);
            d.due("the 41st place, " + call, call.on(x), FULL);
            d.due("there are still 40", x.count(0), 40);
            d.due("no place 40", x.place(40, 0), NOT);
        }
    }

    /** "Of several the first": BAD stands ahead of FULL. */
    private static void badAheadOfFull() {
        for (Call call : WRONG_PLACES) {
            d.due("when it is full, " + call, call.on(desks(40)), BAD);
        }
    }

    /** "a WAIT (1 to 100); TIMES (1 to 3); THEN, a next PLACE"; "BAD: also a next PLACE not -1 to 39." */
    private static void menuNumbers() {
        d.bounds("menu: wait", 1, 100, 0, BAD, v -> new SpokenMenus().menu(v, 1, -1));
        d.bounds("menu: times", 1, 3, 0, BAD, v -> new SpokenMenus().menu(1, v, -1));
        d.bounds("menu: then", -1, 39, 0, BAD, v -> new SpokenMenus().menu(1, 1, v));
    }

    /** The least and the greatest WAIT, TIMES and ticks are those that are heard. */
    private static void menuTakesEffect() {
        d.due("wait 1, once", ticksOfRing(Ask.house(Call.of("menu", 1, 1, -1)), 0), 1);
        d.due("wait 100, three times", ticksOfRing(Ask.house(Call.of("menu", 100, 3, -1)), 0), 300);
        Call[] six = new Call[7];
        six[0] = Call.of("menu", 100, 3, -1);
        for (int i = 0; i < 6; i++) {
            six[i + 1] = Call.of("line", 0, 200, i, 0, -1);
        }
        d.due("the longest menu", ticksOfRing(Ask.house(six), 0), 3900);
        d.due("the shortest line and its key",
            ticksOfRing(Ask.house(Call.of("menu", 1, 1, -1), Call.of("line", 0, 1, 0, 1, -1)), 0), 2);
    }

    /** "A MENU without LINES." */
    private static void menuWithoutLines() {
        SpokenMenus x = menuOf(0);
        d.due("no lines", x.place(0, 2), 0);
        d.due("no line 0", x.lineOf(0, 0, 0), NOT);
        d.due("none to change", x.change(0, 0, 0, 1), NOT);
        d.due("none to swap", x.swap(0, 0, 0), BAD);
        d.due("none to order", x.order(0, 0), NONE);
        d.due("no sum", x.order(0, -1), 0);
        d.due("nor at best", x.order(0, -2), 0);
        d.due("arrange", x.arrange(0), 0);
        d.due("no lines then", x.place(0, 2), 0);
        d.due("the first line", x.line(0, 1, 0, 0, -1), 1);
    }

    /** "ticks (1 to 200), a KEY (0 to 11, each once), WISHES of which it speaks, a next PLACE". */
    private static void lineNumbers() {
        d.bounds("line: ticks", 1, 200, 1, BAD, v -> menuOf(0).line(0, v, 0, 0, -1));
        d.bounds("line: key", 0, 11, 1, BAD, v -> menuOf(0).line(0, 1, v, 0, -1));
        d.bounds("line: wishes", 0, 65535, 1, BAD, v -> menuOf(0).line(0, 1, 0, v, -1));
        d.bounds("line: next", -1, 39, 1, BAD, v -> menuOf(0).line(0, 1, 0, 0, v));
        SpokenMenus x = menuOf(0);
        x.line(0, 200, 11, 65535, 39);
        x.line(0, 1, 0, 0, -1);
        d.dueRow("the greatest line", Ask.lineTold(x, 0, 0), 200, 11, 65535, 39);
        d.dueRow("the least line, behind it", Ask.lineTold(x, 0, 1), 1, 0, 0, -1);
    }

    /** "BAD: also not a MENU"; "there is no such thing". */
    private static void linePlaces() {
        d.due("a menu", ofEachKind().line(0, 1, 0, 0, -1), 1);
        for (int kind = 1; kind <= 4; kind++) {
            d.due("kind " + kind + " has no lines", ofEachKind().line(kind, 1, 0, 0, -1), BAD);
        }
        d.bounds("line: place", 0, 0, 1, BAD, v -> menuOf(0).line(v, 1, 0, 0, -1));
        d.due("the last place of 40", lastMenu().line(39, 1, 0, 0, -1), 1);
        d.due("behind the last place of 40", lastMenu().line(40, 1, 0, 0, -1), BAD);
    }

    private static SpokenMenus lastMenu() {
        SpokenMenus x = desks(39);
        x.menu(1, 1, -1);
        return x;
    }

    /** "a KEY (0 to 11, each once)"; "BAD: also .. a KEY that it has". */
    private static void keysOnce() {
        for (int key = 0; key <= 11; key++) {
            SpokenMenus x = Ask.house(Call.of("menu", 1, 1, -1), Call.of("menu", 1, 1, -1));
            d.due("key " + key, x.line(0, 1, key, 0, -1), 1);
            d.due("key " + key + " again", x.line(0, 1, key, 0, -1), BAD);
            d.due("key " + key + " of another menu", x.line(1, 1, key, 0, -1), 1);
            d.due("another key", x.line(0, 1, (key + 1) % 12, 0, -1), 2);
            d.due("key " + key + " of the line ahead of the last", x.line(0, 1, key, 0, -1), BAD);
            d.due("two lines", x.place(0, 2), 2);
        }
        SpokenMenus x = menuOf(2);
        x.swap(0, 0, 1);
        d.due("a key that moved away", x.line(0, 1, 0, 0, -1), BAD);
        d.due("a key that moved up", x.line(0, 1, 1, 0, -1), BAD);
    }

    /** "up to 6 LINES, in order"; "A LINE behind those of a MENU: how many it has"; "FULL: 6." */
    private static void mostLines() {
        SpokenMenus x = menuOf(0);
        for (int i = 0; i < 6; i++) {
            d.due("line " + i, x.line(0, 10 + i, 11 - i, 0, -1), i + 1);
        }
        d.due("a seventh", x.line(0, 1, 0, 0, -1), FULL);
        d.due("an eighth", x.line(0, 1, 1, 0, -1), FULL);
        d.dueRow("in order", Ask.keysOf(x, 0), 11, 10, 9, 8, 7, 6);
        d.due("BAD ahead of FULL: the first key", x.line(0, 1, 11, 0, -1), BAD);
        d.due("BAD ahead of FULL: the last key", x.line(0, 1, 6, 0, -1), BAD);
        d.due("BAD ahead of FULL: ticks", x.line(0, 201, 0, 0, -1), BAD);
        d.due("BAD ahead of FULL: key", x.line(0, 1, 12, 0, -1), BAD);
        d.due("BAD ahead of FULL: wishes", x.line(0, 1, 0, 65536, -1), BAD);
        d.due("BAD ahead of FULL: next", x.line(0, 1, 0, 0, 40), BAD);
        x.menu(1, 1, -1);
        d.due("another menu is not full", x.line(1, 1, 0, 0, -1), 1);
    }

    /** "DESK: ticks (0 to 500); WISHES SERVED." "WISHES are 0 to 15 .. told as bits." */
    private static void deskNumbers() {
        d.bounds("desk: ticks", 0, 500, 0, BAD, v -> new SpokenMenus().desk(v, 0));
        d.bounds("desk: wishes", 0, 65535, 0, BAD, v -> new SpokenMenus().desk(0, v));
        d.due("no tick at a desk", ticksOfRing(Ask.house(Call.of("desk", 0, 1)), 0), 0);
        d.due("500 ticks at a desk", ticksOfRing(Ask.house(Call.of("desk", 500, 1)), 0), 500);
        for (int wish = 0; wish <= 15; wish++) {
            d.due("served alone: wish " + wish, Ask.house(Call.of("desk", 0, 1 << wish)).ring(wish, 0, 1, 0, 0), 0);
            d.due("not served alone: wish " + wish,
                Ask.house(Call.of("desk", 0, 65535 - (1 << wish))).ring(wish, 0, 1, 0, 0), ENDED);
        }
    }

    /** "LEAF: ticks (1 to 200); WISHES SERVED; THEN." */
    private static void leafNumbers() {
        d.bounds("leaf: ticks", 1, 200, 0, BAD, v -> new SpokenMenus().leaf(v, 0, -1));
        d.bounds("leaf: wishes", 0, 65535, 0, BAD, v -> new SpokenMenus().leaf(1, v, -1));
        d.bounds("leaf: then", -1, 39, 0, BAD, v -> new SpokenMenus().leaf(1, 0, v));
        d.due("1 tick at a leaf", ticksOfRing(Ask.house(Call.of("leaf", 1, 1, -1)), 0), 1);
        d.due("200 ticks at a leaf", ticksOfRing(Ask.house(Call.of("leaf", 200, 0, -1)), 0), 200);
        for (int wish = 0; wish <= 15; wish++) {
            d.due("served alone: wish " + wish, Ask.house(Call.of("leaf", 1, 1 << wish, -1)).ring(wish, 0, 1, 0, 0), 0);
            d.due("not served alone: wish " + wish,
                Ask.house(Call.of("leaf", 1, 65535 - (1 << wish), -1)).ring(wish, 0, 1, 0, 0), ENDED);
        }
    }

    /** "CLOCK: from hour f to hour t": "an HOUR 0 to 23"; "a next PLACE if it is OPEN, one if not." */
    private static void clockNumbers() {
        d.bounds("clock: from", 0, 23, 0, BAD, v -> new SpokenMenus().clock(v, 5, -1, -1));
        d.bounds("clock: to", 0, 23, 0, BAD, v -> new SpokenMenus().clock(5, v, -1, -1));
        d.bounds("clock: open", -1, 39, 0, BAD, v -> new SpokenMenus().clock(0, 0, v, -1));
        d.bounds("clock: shut", -1, 39, 0, BAD, v -> new SpokenMenus().clock(0, 0, -1, v));
    }

    /** "ASKED: ticks (1 to 200); FIGURES (1 to 8); TRIES (1 to 3); a next PLACE if the number is RIGHT, one if not." */
    private static void askedNumbers() {
        d.bounds("asked: ticks", 1, 200, 0, BAD, v -> new SpokenMenus().asked(v, 1, 1, -1, -1));
        d.bounds("asked: figures", 1, 8, 0, BAD, v -> new SpokenMenus().asked(1, v, 1, -1, -1));
        d.bounds("asked: tries", 1, 3, 0, BAD, v -> new SpokenMenus().asked(1, 1, v, -1, -1));
        d.bounds("asked: right", -1, 39, 0, BAD, v -> new SpokenMenus().asked(1, 1, 1, v, -1));
        d.bounds("asked: wrong", -1, 39, 0, BAD, v -> new SpokenMenus().asked(1, 1, 1, -1, v));
        SpokenMenus least = Ask.house(Call.of("asked", 1, 1, 1, -1, -1));
        SpokenMenus greatest = Ask.house(Call.of("asked", 200, 8, 3, -1, -1));
        d.due("the shortest, right", ticksOfRing(least, 0), 2);
        d.due("the longest, right", ticksOfRing(greatest, 0), 208);
        greatest.ring(0, 1, 5000, 0, 0);
        d.due("the longest, wrong", greatest.call(0), 624);
        least.ring(0, 1, 5000, 0, 0);
        d.due("the shortest, wrong", least.call(0), 2);
    }

    /** "A next PLACE is .. none (-1: the call ENDS), also one that is not there yet (a call that comes to it ENDS)." */
    private static void nextPlaces() {
        Call[] toNone = {
            Call.of("menu", 1, 1, -1), Call.of("leaf", 1, 0, -1), Call.of("clock", 0, 0, -1, 1),
            Call.of("clock", 5, 6, 1, -1), Call.of("asked", 1, 1, 1, -1, 1),
        };
        for (Call call : toNone) {
            d.due(call + " and none", Ask.house(call, Call.of("desk", 0, 1)).ring(0, 0, 100, 0, 0), ENDED);
        }
        d.due("a wrong number and none",
            Ask.house(Call.of("asked", 1, 1, 1, 1, -1), Call.of("desk", 0, 1)).ring(0, 1, 100, 0, 0), ENDED);
        d.due("a line and none", Ask.house(Call.of("menu", 1, 1, 1), Call.of("line", 0, 1, 0, 1, -1), Call.of("desk", 0, 1))
            .ring(0, 0, 100, 0, 0), ENDED);
        for (int next : new int[] {1, 39}) {
            Call[] toLater = {
                Call.of("menu", 1, 1, next), Call.of("leaf", 1, 0, next), Call.of("clock", 0, 0, next, -1),
                Call.of("clock", 5, 6, -1, next), Call.of("asked", 1, 1, 1, next, -1),
            };
            for (Call call : toLater) {
                SpokenMenus x = Ask.house(call);
                d.due(call + " is not there yet", x.ring(0, 0, 100, 0, 0), ENDED);
                d.due("the last place that is", x.call(1), 0);
                for (int p = 1; p < next; p++) {
                    x.leaf(1, 0, -1);
                }
                d.due(call + " is not there yet, but all ahead of it", x.ring(0, 0, 100, 0, 0), ENDED);
                x.desk(0, 1);
                d.due(call + " is there", x.ring(0, 0, 100, 0, 0), 0);
                d.due("and it came to it", x.call(1), next);
            }
        }
    }

    /** "LINE i of a MENU has other ticks (what = 0), WISHES (1), next PLACE (2): what it was. BAD: -1000." */
    private static void changeNumbers() {
        d.bounds("change: ticks", 1, 200, 15, NOT, v -> menuOf(6).change(0, 5, 0, v));
        d.bounds("change: wishes", 0, 65535, 32, NOT, v -> menuOf(6).change(0, 5, 1, v));
        d.bounds("change: next", -1, 39, 5, NOT, v -> menuOf(6).change(0, 5, 2, v));
        d.bounds("change: what", 0, 2, 1, NOT, v -> Ask.house(Call.of("menu", 1, 1, -1), Call.of("line", 0, 1, 0, 1, 1))
            .change(0, 0, v, 1));
        d.bounds("change: place", 0, 0, 10, NOT, v -> menuOf(1).change(v, 0, 0, 1));
        for (int lines = 1; lines <= 6; lines++) {
            int many = lines;
            d.due("the first of " + many, menuOf(many).change(0, 0, 0, 1), 10);
            d.due("the last of " + many, menuOf(many).change(0, many - 1, 0, 1), 9 + many);
            for (int i : new int[] {-1, many, Integer.MIN_VALUE, Integer.MAX_VALUE}) {
                d.due("line " + i + " of " + many, menuOf(many).change(0, i, 0, 1), NOT);
            }
        }
        for (int kind = 1; kind <= 4; kind++) {
            d.due("kind " + kind + " has no line to change", ofEachKind().change(kind, 0, 0, 1), NOT);
        }
    }

    /** A change to the least and the greatest stands, and only there. */
    private static void changeTakesEffect() {
        SpokenMenus x = menuOf(3);
        x.change(0, 1, 0, 200);
        x.change(0, 1, 1, 65535);
        x.change(0, 1, 2, 39);
        d.dueRow("greatest", Ask.lineTold(x, 0, 1), 200, 1, 65535, 39);
        d.due("what the greatest ticks were", x.change(0, 1, 0, 1), 200);
        d.due("what the greatest wishes were", x.change(0, 1, 1, 0), 65535);
        d.due("what the greatest next was", x.change(0, 1, 2, -1), 39);
        d.dueRow("least", Ask.lineTold(x, 0, 1), 1, 1, 0, -1);
        d.due("what no next was", x.change(0, 1, 2, 0), -1);
        d.due("to what it is", x.change(0, 1, 2, 0), 0);
        d.dueRow("the line ahead", Ask.lineTold(x, 0, 0), 10, 0, 1, 0);
        d.dueRow("the line behind", Ask.lineTold(x, 0, 2), 12, 2, 4, 2);
    }

    /** "LINES i and j of a MENU change places: 0. BAD." */
    private static void swapNumbers() {
        d.bounds("swap: i", 0, 5, 0, BAD, v -> menuOf(6).swap(0, v, 3));
        d.bounds("swap: j", 0, 5, 0, BAD, v -> menuOf(6).swap(0, 3, v));
        d.bounds("swap: i of two", 0, 1, 0, BAD, v -> menuOf(2).swap(0, v, 0));
        d.bounds("swap: j of two", 0, 1, 0, BAD, v -> menuOf(2).swap(0, 0, v));
        d.bounds("swap: place", 0, 0, 0, BAD, v -> menuOf(2).swap(v, 0, 1));
        for (int kind = 1; kind <= 4; kind++) {
            d.due("kind " + kind + " has none to swap", ofEachKind().swap(kind, 0, 0), BAD);
        }
        SpokenMenus x = menuOf(6);
        x.swap(0, 0, 5);
        d.dueRow("the first and the last", Ask.keysOf(x, 0), 5, 1, 2, 3, 4, 0);
        d.dueRow("the whole line moved", Ask.lineTold(x, 0, 0), 15, 5, 32, 5);
        x.swap(0, 5, 4);
        d.dueRow("the greater first", Ask.keysOf(x, 0), 5, 1, 2, 3, 0, 4);
        d.due("one with itself", x.swap(0, 2, 2), 0);
        d.dueRow("as before", Ask.keysOf(x, 0), 5, 1, 2, 3, 0, 4);
    }

    /** "Of a PLACE: 0 .. 5 .. BAD: -1000." */
    private static void placeNumbers() {
        d.bounds("place: p of one", 0, 0, 1, NOT, v -> desks(1).place(v, 0));
        d.bounds("place: p of 40", 0, 39, 1, NOT, v -> desks(40).place(v, 0));
        d.due("one that is not there yet", desks(39).place(39, 0), NOT);
        for (int kind = 0; kind <= 4; kind++) {
            for (int what : new int[] {-1, 6, Integer.MIN_VALUE, Integer.MAX_VALUE}) {
                d.due("place " + kind + ", " + what, ofEachKind().place(kind, what), NOT);
            }
        }
    }

    /** "1 its ticks (MENU: WAIT; CLOCK: 0), 2 LINES (else 0), 3 .. (.. DESK: -1), 4 the other one (-1, if there is none), 5 WISHES SERVED (0)." */
    private static void placeOfEachKind() {
        SpokenMenus x = Ask.house(Call.of("menu", 100, 3, 39), Call.of("desk", 500, 65535), Call.of("leaf", 200, 65535, 39),
            Call.of("clock", 23, 22, 39, 38), Call.of("asked", 200, 8, 3, 39, 38));
        d.dueRow("the greatest menu", Ask.told(x, 0), 0, 100, 0, 39, -1, 0);
        d.dueRow("the greatest desk", Ask.told(x, 1), 1, 500, 0, -1, -1, 65535);
        d.dueRow("the greatest leaf", Ask.told(x, 2), 2, 200, 0, 39, -1, 65535);
        d.dueRow("the greatest clock", Ask.told(x, 3), 3, 0, 0, 39, 38, 0);
        d.dueRow("the greatest asked", Ask.told(x, 4), 4, 200, 0, 39, 38, 0);
        SpokenMenus y = ofEachKind();
        d.dueRow("the least menu", Ask.told(y, 0), 0, 1, 0, -1, -1, 0);
        d.dueRow("the least desk", Ask.told(y, 1), 1, 0, 0, -1, -1, 0);
        d.dueRow("the least leaf", Ask.told(y, 2), 2, 1, 0, -1, -1, 0);
        d.dueRow("the least clock", Ask.told(y, 3), 3, 0, 0, -1, -1, 0);
        d.dueRow("the least asked", Ask.told(y, 4), 4, 1, 0, -1, -1, 0);
        for (int lines = 0; lines <= 6; lines++) {
            d.due("a menu of " + lines, menuOf(lines).place(0, 2), lines);
        }
    }

    /** "Of LINE i of a MENU: 0 ticks, 1 KEY, 2 WISHES, 3 next PLACE. BAD: -1000." */
    private static void lineOfNumbers() {
        d.bounds("lineOf: i of 1", 0, 0, 10, NOT, v -> menuOf(1).lineOf(0, v, 0));
        for (int i : new int[] {-1, 6, Integer.MIN_VALUE, Integer.MAX_VALUE}) {
            d.due("line " + i + " of 6", menuOf(6).lineOf(0, i, 0), NOT);
        }
        d.bounds("lineOf: place", 0, 0, 10, NOT, v -> menuOf(1).lineOf(v, 0, 0));
        d.bounds("lineOf: what", 0, 3, 7, NOT, v -> Ask.house(Call.of("menu", 1, 1, -1), Call.of("line", 0, 7, 7, 7, 7))
            .lineOf(0, 0, v));
        for (int kind = 1; kind <= 4; kind++) {
            d.due("kind " + kind + " has no line", ofEachKind().lineOf(kind, 0, 0), NOT);
        }
        for (int i = 0; i < 6; i++) {
            d.dueRow("line " + i, Ask.lineTold(menuOf(6), 0, i), 10 + i, i, 1 << i, i);
        }
    }

    /** "An object is used for at most 512 calls": the 512th is answered as the first. */
    private static void lastCall() {
        SpokenMenus x = menuOf(6);
        for (int call = 7; call < 511; call++) {
            x.ring(call % 16, call, 5000, call % 24, call % 2);
        }
        d.due("the 512th call", x.ring(5, 0, 5000, 0, 0), ENDED);
        SpokenMenus y = new SpokenMenus();
        for (int call = 0; call < 511; call++) {
            d.due("no place 0, call " + call, y.ring(0, 0, 1, 0, 0), NO);
        }
        d.due("the first place by the 512th call", y.desk(0, 0), 0);
    }
}
