import java.util.function.ToIntFunction;

/** Counts the answers that are not as due; a test ends with finish(). */
final class Check {
    private static int asked = 0;
    private static int wrong = 0;
    private static int told = 0;
    private static String sentence = "";

    private Check() {
    }

    /** The words of the document that what follows looks at; a wrong answer is told with them. */
    static void sentence(String words) {
        sentence = "[" + words + "] ";
        // A sentence with many wrong answers doesn't hide the next one.
        told = 0;
    }

    static void due(String call, long got, long want) {
        asked++;
        if (got != want) {
            tell(call + " answered " + got + ", due is " + want);
        }
    }

    private static void tell(String what) {
        wrong++;
        told++;
        if (told <= 20) {
            System.out.println(sentence + what);
        }
    }

    static void due(String call, boolean got, boolean want) {
        due(call, got ? 1L : 0L, want ? 1L : 0L);
    }

    /** Sets a whole register, the coefficient of the lowest power first; those not named are 0. */
    static void put(FactorDesk desk, int r, int... c) {
        for (int i = 0; i < 6; i++) {
            int value = i < c.length ? c[i] : 0;
            due("set(" + r + ", " + i + ", " + value + ")", desk.set(r, i, value), true);
        }
    }

    /** Looks at a whole register, the coefficient of the lowest power first. */
    static void holds(String after, FactorDesk desk, int r, int... c) {
        for (int i = 0; i < 6; i++) {
            int value = i < c.length ? c[i] : 0;
            due(after + ": get(" + r + ", " + i + ")", desk.get(r, i), value);
        }
    }

    /** A new object with these registers; those not named hold zero. */
    static FactorDesk desk(int[]... held) {
        FactorDesk desk = new FactorDesk();
        for (int r = 0; r < held.length; r++) {
            put(desk, r, held[r]);
        }
        return desk;
    }

    /** One call on a new object with these registers; none of them may change. */
    static void unchanged(String call, int[][] held, ToIntFunction<FactorDesk> ask, int answer) {
        made(call, held, ask, answer, -1);
    }

    /** One call on a new object with these registers; register d becomes the result, no other changes. */
    static void made(String call, int[][] held, ToIntFunction<FactorDesk> ask, int answer, int d, int... result) {
        FactorDesk desk = desk(held);
        try {
            due(call, ask.applyAsInt(desk), answer);
        } catch (RuntimeException thrown) {
            tell(call + " threw " + thrown);
        }
        for (int r = 0; r < 4; r++) {
            int[] before = r < held.length ? held[r] : new int[0];
            holds(call, desk, r, r == d ? result : before);
        }
    }

    /** A polynomial, the coefficient of the lowest power first. */
    static int[] of(int... c) {
        return c;
    }

    static int[][] registers(int[]... held) {
        return held;
    }

    static void finish() {
        System.out.println(asked + " answers, " + wrong + " of them not as due");
        if (wrong != 0) {
            System.exit(1);
        }
    }
}
