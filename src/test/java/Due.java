/** Compares answers with those that are due, and ends a test. */
final class Due {
    private int wrong = 0;
    private int asked = 0;

    void due(String call, int got, int want) {
        asked++;
        if (got != want) {
            wrong++;
            System.out.println(call + " answered " + got + ", due is " + want);
        }
    }

    void dueRow(String calls, int[] got, int... want) {
        due(calls + ": length", got.length, want.length);
        for (int i = 0; i < got.length && i < want.length; i++) {
            due(calls + ": at " + i, got[i], want[i]);
        }
    }

    void holds(String what, boolean does) {
        due(what, does ? 1 : 0, 1);
    }

    void end() {
        System.out.println(asked + " answers, " + wrong + " not as due");
        if (wrong != 0) {
            System.exit(1);
        }
    }
}
