/** The edges that promises 7 and 8 name, a method for each sentence. */
public final class ChangeEdgesTest {
    private static final int BAD = FactorDesk.BAD;
    private static final int FULL = FactorDesk.FULL;
    private static final int[] MARK = {9, -8, 7, -6, 5, -4};
    private static final int[] OUTSIDE = {Integer.MIN_VALUE, -4, -1, 4, 5, 715827883, Integer.MAX_VALUE};

    private static int[] of(int... c) {
        return c;
    }

    private static int[] term(int power, int c) {
        int[] term = new int[6];
        term[power] = c;
        return term;
    }

    /** Into another register, and over a itself. */
    private static void derived(int[] a, int answer, int... result) {
        int[][] held = {a, MARK, MARK, MARK};
        for (int d : new int[] {0, 1, 3}) {
            Check.made("derive(" + d + ", 0)", held, desk -> desk.derive(d, 0), answer, d, result);
        }
    }

    private static void derivedFull(int[] a) {
        int[][] held = {a, MARK, MARK, MARK};
        for (int d : new int[] {0, 1, 3}) {
            Check.unchanged("derive(" + d + ", 0)", held, desk -> desk.derive(d, 0), FULL);
        }
    }

    private static void shifted(int t, int[] a, int answer, int... result) {
        int[][] held = {MARK, MARK, MARK, a};
        for (int d : new int[] {0, 2, 3}) {
            Check.made("shift(" + d + ", 3, " + t + ")", held, desk -> desk.shift(d, 3, t), answer, d, result);
        }
    }

    private static void shiftedFull(int t, int[] a) {
        int[][] held = {MARK, MARK, MARK, a};
        for (int d : new int[] {0, 2, 3}) {
            Check.unchanged("shift(" + d + ", 3, " + t + ")", held, desk -> desk.shift(d, 3, t), FULL);
        }
    }

    private static void deriveOutside() {
        Check.sentence("7: A number outside 0..3: BAD");
        int[][] held = {of(1, 1), MARK, MARK, of(1, 1, 1)};
        for (int r : OUTSIDE) {
            for (int inside = 0; inside < 4; inside++) {
                int other = inside;
                Check.unchanged("derive(" + r + ", " + inside + ")", held, desk -> desk.derive(r, other), BAD);
                Check.unchanged("derive(" + inside + ", " + r + ")", held, desk -> desk.derive(other, r), BAD);
            }
            Check.unchanged("derive(" + r + ", " + r + ")", held, desk -> desk.derive(r, r), BAD);
        }
        Check.made("derive(0, 3)", held, desk -> desk.derive(0, 3), 1, 0, 1, 2);
        Check.made("derive(3, 0)", held, desk -> desk.derive(3, 0), 0, 3, 1);
    }

    private static void derivativeDoesNotFit() {
        Check.sentence("7: it does not fit: FULL");
        for (int i = 1; i < 6; i++) {
            int largest = 20 / i;
            derived(term(i, largest), i - 1, term(i - 1, i * largest));
            derived(term(i, -largest), i - 1, term(i - 1, -i * largest));
            if (i > 1) {
                derivedFull(term(i, largest + 1));
                derivedFull(term(i, -largest - 1));
                derivedFull(term(i, 20));
            }
        }
        derived(of(20, 20, 10, 6, 5, 4), 4, 20, 20, 18, 20, 20);
        derivedFull(of(20, 20, 10, 7, 5, 4));
        derivedFull(of(20, 20, 10, -7, 5, 4));
    }

    private static void deriveAnswersTheDegree() {
        Check.sentence("7: Else answers its degree.");
        derived(of(), -1);
        derived(of(1), -1);
        derived(of(-20), -1);
        derived(of(-20, 1), 0, 1);
        derived(of(1, 0, 1), 1, 0, 2);
        derived(of(1, 1, 0, 0, 0, -1), 4, 1, 0, 0, 0, -5);
    }

    private static void shiftRegisterOutside() {
        Check.sentence("8: A number outside its range: BAD (d, a)");
        int[][] held = {of(1, 1), MARK, MARK, of(1, 1, 1)};
        for (int r : OUTSIDE) {
            for (int t = -3; t <= 3; t++) {
                int by = t;
                Check.unchanged("shift(" + r + ", 0, " + t + ")", held, desk -> desk.shift(r, 0, by), BAD);
                Check.unchanged("shift(0, " + r + ", " + t + ")", held, desk -> desk.shift(0, r, by), BAD);
            }
        }
        Check.made("shift(0, 3, 1)", held, desk -> desk.shift(0, 3, 1), 2, 0, 3, 3, 1);
        Check.made("shift(3, 0, 1)", held, desk -> desk.shift(3, 0, 1), 1, 3, 2, 1);
    }

    private static void shiftOutside() {
        Check.sentence("8: t from -3 to 3. A number outside its range: BAD");
        int[][] held = {of(1, 1), of(), of(5), MARK};
        for (int t : new int[] {Integer.MIN_VALUE, -1000, -5, -4, 4, 5, 1000, Integer.MAX_VALUE}) {
            for (int a = 0; a < 3; a++) {
                int from = a;
                Check.unchanged("shift(3, " + a + ", " + t + ")", held, desk -> desk.shift(3, from, t), BAD);
            }
        }
        for (int t = -3; t <= 3; t++) {
            shifted(t, of(1, 1), 1, 1 + t, 1);
            shifted(t, of(t * t, -2 * t, 1), 2, 0, 0, 1);
            shifted(t, of(), -1);
            shifted(t, of(-20), 0, -20);
        }
    }

    private static void shiftedDoesNotFit() {
        Check.sentence("8: it does not fit: FULL");
        for (int t = 1; t <= 3; t++) {
            shifted(t, of(20 - t, 1), 1, 20, 1);
            shifted(-t, of(t - 20, 1), 1, -20, 1);
            shiftedFull(t, of(21 - t, 1));
            shiftedFull(-t, of(t - 21, 1));
        }
        // Only the coefficient of x is at the edge, or outside.
        shifted(1, of(0, 0, 10), 2, 10, 20, 10);
        shiftedFull(1, of(0, 1, 10));
        shifted(-1, of(0, 0, 10), 2, 10, -20, 10);
        shiftedFull(-1, of(0, -1, 10));
        // Terms outside the range cancel each other; all but the highest coefficient are at the edge.
        shifted(1, of(16, 20, 0, -20, 0, 4), 5, 20, -20, -20, 20, 20, 4);
        shiftedFull(1, of(17, 20, 0, -20, 0, 4));
        shiftedFull(1, of(16, 19, 0, -20, 0, 4));
        shifted(0, of(20, -20, 20, -20, 20, -20), 5, 20, -20, 20, -20, 20, -20);
        shiftedFull(3, of(20, 20, 20, 20, 20, 20));
        shiftedFull(-3, of(20, -20, 20, -20, 20, -20));
        shiftedFull(2, of(0, 0, 0, 0, 0, 1));
    }

    private static void shiftAnswersTheDegree() {
        Check.sentence("8: Else answers its degree.");
        shifted(3, of(), -1);
        shifted(3, of(1), 0, 1);
        shifted(-3, of(3, 1), 1, 0, 1);
        shifted(1, of(0, 0, 0, 0, 0, -1), 5, -1, -5, -10, -10, -5, -1);
    }

    public static void main(String[] args) {
        deriveOutside();
        derivativeDoesNotFit();
        deriveAnswersTheDegree();
        shiftRegisterOutside();
        shiftOutside();
        shiftedDoesNotFit();
        shiftAnswersTheDegree();
        Check.finish();
    }
}
