/** Counts the answers that are not as due; a test ends with finish(). */
final class Check {
    private static int asked = 0;
    private static int wrong = 0;

    private Check() {
    }

    static void due(String call, long got, long want) {
        asked++;
        if (got != want) {
            wrong++;
            if (wrong <= 50) {
                System.out.println(call + " answered " + got + ", due is " + want);
            }
        }
    }

    static void due(String call, boolean got, boolean want) {
        due(call, got ? 1L : 0L, want ? 1L : 0L);
    }

    /** Sets a whole register, the coefficient of the lowest power first; those not named are 0. */
    static void put(FactorDesk desk, int r, int... c) {
        for (int i = 0; i < 6; i++) {
            int value = i < c.length ? c[i] : 0;
            due("set(" + r + ", " + i + ", " + value + ")", desk.set(r, i, value), true);
        }
    }

    /** Looks at a whole register, the coefficient of the lowest power first. */
    static void holds(String after, FactorDesk desk, int r, int... c) {
        for (int i = 0; i < 6; i++) {
            int value = i < c.length ? c[i] : 0;
            due(after + ": get(" + r + ", " + i + ")", desk.get(r, i), value);
        }
    }

    static void finish() {
        System.out.println(asked + " answers, " + wrong + " of them not as due");
        if (wrong != 0) {
            System.exit(1);
        }
    }
}
