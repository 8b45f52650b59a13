import java.util.function.IntUnaryOperator;

/** Compares answers with those that are due, and ends a test. */
final class Due {
    private int wrong = 0;
    private int asked = 0;

    void due(String call, int got, int want) {
        asked++;
        if (got != want) {
            wrong++;
            System.out.println(call + " answered " + got + ", due is " + want);
        }
    }

    void dueRow(String calls, int[] got, int... want) {
        due(calls + ": length", got.length, want.length);
        for (int i = 0; i < got.length && i < want.length; i++) {
            due(calls + ": at " + i, got[i], want[i]);
        }
    }

    void holds(String what, boolean does) {
        due(what, does ? 1 : 0, 1);
    }

    /**
     * Of one number that a call takes: the least and the greatest are taken,
     * those just outside and the outermost are refused. Each call is on a new object.
     */
    void bounds(String what, int least, int greatest, int taken, int refused, IntUnaryOperator call) {
        due(what + " " + least + ", the least", call.applyAsInt(least), taken);
        due(what + " " + greatest + ", the greatest", call.applyAsInt(greatest), taken);
        for (int v : new int[] {least - 1, greatest + 1, Integer.MIN_VALUE, Integer.MAX_VALUE}) {
            due(what + " " + v + ", outside", call.applyAsInt(v), refused);
        }
    }

    void end() {
        System.out.println(asked + " answers, " + wrong + " not as due");
        if (wrong != 0) {
            System.exit(1);
        }
    }
}
