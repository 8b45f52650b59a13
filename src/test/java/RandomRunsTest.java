import java.util.Random;

/** Runs of calls, always the same random ones, with the answers of Model. */
public final class RandomRunsTest {
    private static final int NO_GROUPS = 17, WISH = 22, PLAN = 23;
    private static final int[] ODD = {Integer.MIN_VALUE, -1000, -3, -2, -1, 0, 1, 2, 5, 6, 8, 12, 16, 23, 24, 39, 40, 41, 60,
        100, 101, 200, 201, 256, 500, 501, 1000, 1001, 5000, 5001, 65535, 65536, 99999999, 100000000, Integer.MAX_VALUE};
    private static final Due d = new Due();

    private final Random random;
    private final SpokenMenus x = new SpokenMenus();
    private final Model m = new Model();
    /** How many places next ones are drawn from: few make loops, many make gaps. */
    private final int span;
    private final int most;
    private final int patience;

    private RandomRunsTest(long seed) {
        random = new Random(seed);
        span = 1 + random.nextInt(random.nextInt(4) == 0 ? 40 : 9);
        most = random.nextBoolean() ? 4 : 200;
        patience = new int[] {20, 200, 5000}[random.nextInt(3)];
    }

    public static void main(String[] args) {
        for (int run = 0; run < 3000; run++) {
            new RandomRunsTest(run).go("run " + run, 300);
        }
        for (int run = 0; run < 2400; run++) {
            new RandomRunsTest(run).goPlan("plan " + run);
        }
        d.end();
    }

    private void go(String name, int calls) {
        for (int c = 0; c < calls; c++) {
            int method = c < 60 ? pick(0, 0, 0, 1, 2, 3, 4, 5, 1, 1, 1) : random.nextInt(26);
            if (method == PLAN && random.nextInt(4) != 0 || method == NO_GROUPS && random.nextInt(6) != 0) {
                continue;
            }
            step(name + ", call " + c, method);
        }
    }

    /** One plan, so that what is asked of it stays below 512 calls. */
    private void goPlan(String name) {
        for (int k = 0; k < 8; k++) {
            step(name, WISH);
        }
        step(name, PLAN);
        for (int i = 0; i < 60; i++) {
            int set = random.nextInt(257);
            for (int j = 0; j < 7; j++) {
                Call call = Call.of("planned", set, j);
                d.due(name + ", " + call, call.on(x), call.on(m));
            }
        }
    }

    private int pick(int... of) {
        return of[random.nextInt(of.length)];
    }

    private int from(int least, int greatest) {
        if (random.nextInt(90) == 0) {
            return pick(ODD);
        }
        return least + random.nextInt(greatest - least + 1);
    }

    private int ticks() {
        return from(1, most);
    }

    private int next() {
        return random.nextInt(8) == 0 ? from(-1, 39) : from(-1, span);
    }

    private int spot() {
        return from(0, Math.max(0, Math.min(span, m.count(0)) - 1));
    }

    private int wishes() {
        return random.nextInt(3) == 0 ? from(0, 65535) : 1 << random.nextInt(5) | 1 << random.nextInt(5);
    }

    private int wishOne() {
        return from(0, random.nextInt(4) == 0 ? 15 : 5);
    }

    private int number() {
        return pick(0, 31, 32, 130, 1130, 10000007, from(0, 99), from(0, 99999999));
    }

    private int hour() {
        return from(0, 23);
    }

    private void step(String name, int method) {
        Call call = new Call(Call.NAMES[method], arguments(method));
        d.due(name + ", " + call, call.on(x), call.on(m));
    }

    private int[] arguments(int method) {
        switch (method) {
            case 0: return new int[] {from(1, Math.min(100, most)), from(1, 3), next()};
            case 1: return new int[] {spot(), ticks(), from(0, 11), wishes(), next()};
            case 2: return new int[] {from(0, most), wishes()};
            case 3: return new int[] {ticks(), wishes(), next()};
            case 4: return new int[] {hour(), hour(), next(), next()};
            case 5: return new int[] {ticks(), from(1, 8), from(1, 3), next(), next()};
            case 6:
                int what = from(0, 2);
                return new int[] {spot(), from(0, 3), what, what == 0 ? ticks() : what == 1 ? wishes() : next()};
            case 7: return new int[] {spot(), from(0, 3), from(0, 3)};
            case 8: return new int[] {spot(), from(0, 5)};
            case 9: return new int[] {spot(), from(0, 3), from(0, 3)};
            case 10: return new int[] {wishOne(), number(), from(1, patience), hour(), from(0, 1)};
            case 11: return new int[] {from(0, 3)};
            case 12: return new int[] {from(0, pick(5, 62))};
            case 13: return new int[] {from(0, pick(5, 62))};
            case 14: return new int[] {spot(), wishOne(), number(), hour()};
            case 15: return new int[] {hour(), from(-1, 5)};
            case 16: return new int[] {from(1, pick(3, 1000)), wishOne(), number(), from(1, patience), hour(), from(0, 1)};
            case 17: return new int[0];
            case 18: return new int[] {from(0, 4)};
            case 19: return new int[] {spot()};
            case 20: return new int[] {spot(), from(-2, 6)};
            case 21: return new int[] {spot()};
            case 22: return new int[] {from(0, 7), from(1, pick(3, 200)), from(0, pick(2, 1000))};
            case 23: return new int[] {from(1, random.nextInt(20) == 0 ? 7 : 5), from(1, pick(3, 30, 200)), from(2, 6)};
            case 24: return new int[] {from(1, pick(7, 31, 255)), from(0, 5)};
            default: return new int[] {from(0, 2)};
        }
    }
}
