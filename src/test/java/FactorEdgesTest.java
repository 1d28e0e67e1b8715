/** The edges that promises 9 to 12 name, a method for each sentence. */
public final class FactorEdgesTest {
    private static final int BAD = FactorDesk.BAD;
    private static final int FULL = FactorDesk.FULL;
    private static final int NONE = FactorDesk.NONE;
    private static final int[] MARK = {9, -8, 7, -6, 5, -4};
    private static final int[] OUTSIDE = {Integer.MIN_VALUE, -4, -1, 4, 5, 715827883, Integer.MAX_VALUE};
    // The ends of the range, with x - 1 and x^2 + 1 between them.
    private static final int[][] ENDS = {of(-1, 1), MARK, MARK, of(-1, 1, -1, 1)};

    private static int[] of(int... c) {
        return c;
    }

    private static void contained(int answer, int... a) {
        Check.unchanged("content(0)", Check.registers(a, MARK), desk -> desk.content(0), answer);
        Check.unchanged("content(3)", Check.registers(MARK, MARK, MARK, a), desk -> desk.content(3), answer);
    }

    private static void counted(int answer, int... a) {
        Check.unchanged("factors(0)", Check.registers(a, MARK), desk -> desk.factors(0), answer);
        Check.unchanged("factors(3)", Check.registers(MARK, MARK, MARK, a), desk -> desk.factors(3), answer);
    }

    /** Into another register, and over r itself. */
    private static void factored(int[] a, int k, int answer, int... result) {
        int[][] held = {a, MARK, MARK, MARK};
        for (int d : new int[] {0, 1, 3}) {
            Check.made("factor(" + d + ", 0, " + k + ")", held, desk -> desk.factor(d, 0, k), answer, d, result);
        }
    }

    private static void noFactor(int[] a, int k, int code) {
        int[][] held = {a, MARK, MARK, MARK};
        for (int d : new int[] {0, 1, 3}) {
            Check.unchanged("factor(" + d + ", 0, " + k + ")", held, desk -> desk.factor(d, 0, k), code);
        }
    }

    private static void simplified(int[] a, int answer, int... result) {
        int[][] held = {a, MARK, MARK, MARK};
        for (int d : new int[] {0, 1, 3}) {
            Check.made("simple(" + d + ", 0)", held, desk -> desk.simple(d, 0), answer, d, result);
        }
    }

    private static void simpleFull(int[] a) {
        int[][] held = {a, MARK, MARK, MARK};
        for (int d : new int[] {0, 1, 3}) {
            Check.unchanged("simple(" + d + ", 0)", held, desk -> desk.simple(d, 0), FULL);
        }
    }

    private static void contentOfZero() {
        Check.sentence("9: 0 if it holds zero");
        contained(0);
        contained(1, 1);
        contained(1, -1);
        contained(20, -20);
        contained(20, 0, 0, 0, 0, 0, 20);
        contained(1, 20, 0, 0, 0, 0, 19);
    }

    private static void contentOutside() {
        Check.sentence("9: BAD for r outside 0..3");
        for (int r : OUTSIDE) {
            Check.unchanged("content(" + r + ")", ENDS, desk -> desk.content(r), BAD);
        }
        contained(2, 4, 6);
    }

    private static void factorsOutside() {
        Check.sentence("10: BAD for r outside 0..3");
        for (int r : OUTSIDE) {
            Check.unchanged("factors(" + r + ")", ENDS, desk -> desk.factors(r), BAD);
        }
        Check.unchanged("factors(0)", ENDS, desk -> desk.factors(0), 1);
        Check.unchanged("factors(3)", ENDS, desk -> desk.factors(3), 2);
    }

    private static void degreeZeroHasNone() {
        Check.sentence("Terms: zero and polynomials of degree 0 have none");
        counted(0);
        for (int c = -20; c <= 20; c++) {
            counted(0, c);
        }
        counted(1, 0, 1);
        counted(1, 20, -20);
        counted(5, 0, 0, 0, 0, 0, 20);
        counted(1, -1, -1, 0, 0, 0, 1);
        noFactor(of(), 0, NONE);
        noFactor(of(1), 0, NONE);
        noFactor(of(-20), 0, NONE);
        noFactor(of(6), 0, NONE);
        factored(of(0, -6), 0, 1, 0, 1);
    }

    private static void factorOutside() {
        Check.sentence("11: d or r outside 0..3: BAD");
        for (int r : OUTSIDE) {
            Check.unchanged("factor(" + r + ", 0, 0)", ENDS, desk -> desk.factor(r, 0, 0), BAD);
            Check.unchanged("factor(" + r + ", 3, 0)", ENDS, desk -> desk.factor(r, 3, 0), BAD);
            Check.unchanged("factor(0, " + r + ", 0)", ENDS, desk -> desk.factor(0, r, 0), BAD);
            Check.unchanged("factor(3, " + r + ", 0)", ENDS, desk -> desk.factor(3, r, 0), BAD);
        }
        Check.made("factor(0, 3, 1)", ENDS, desk -> desk.factor(0, 3, 1), 2, 0, 1, 0, 1);
        Check.made("factor(3, 0, 0)", ENDS, desk -> desk.factor(3, 0, 0), 1, 3, -1, 1);
    }

    private static void noSuchFactor() {
        Check.sentence("11: there is no factor k: NONE");
        int[][] powers = {of(0, 1), of(0, 0, 1), of(0, 0, 0, 1), of(0, 0, 0, 0, 1), of(0, 0, 0, 0, 0, 1)};
        for (int n = 1; n <= 5; n++) {
            int[] a = powers[n - 1];
            factored(a, 0, 1, 0, 1);
            factored(a, n - 1, 1, 0, 1);
            for (int k : new int[] {Integer.MIN_VALUE, -1001, -n, -1, n, n + 1, 6, 1000, Integer.MAX_VALUE}) {
                noFactor(a, k, NONE);
            }
        }
        factored(of(-1, -1, 0, 0, 0, 1), 0, 5, -1, -1, 0, 0, 0, 1);
        noFactor(of(-1, -1, 0, 0, 0, 1), 1, NONE);
        noFactor(of(-1, -1, 0, 0, 0, 1), -1, NONE);
    }

    private static void factorDoesNotFit() {
        Check.sentence("11: it does not fit: FULL");
        factored(of(1, -19, -19, 1), 1, 2, 1, -20, 1);
        factored(of(-1, -19, 19, 1), 1, 2, 1, 20, 1);
        noFactor(of(1, -20, -20, 1), 1, FULL);
        noFactor(of(-1, -20, 20, 1), 1, FULL);
        // The factor beside the one that does not fit does.
        factored(of(1, -20, -20, 1), 0, 1, 1, 1);
        factored(of(-1, -20, 20, 1), 0, 1, -1, 1);
        noFactor(of(1, -20, -20, 1), 2, NONE);
        // A factor of degree 3 with 22 and 23; its first coefficient to fail is not the lowest one.
        noFactor(of(4, 15, -20, -20, 20, 1), 2, FULL);
        factored(of(4, 15, -20, -20, 20, 1), 1, 1, -1, 1);
    }

    private static void simpleOfZero() {
        Check.sentence("12: zero if r holds zero");
        simplified(of(), -1);
        simplified(of(0, 0, 1), 1, 0, 1);
        Check.made("simple(3, 2)", Check.registers(MARK, MARK, of(), MARK), desk -> desk.simple(3, 2), -1, 3);
    }

    private static void simpleOfDegreeZero() {
        Check.sentence("12: 1 if it has the degree 0");
        for (int c = 1; c <= 20; c++) {
            simplified(of(c), 0, 1);
            simplified(of(-c), 0, 1);
        }
        simplified(of(0, -20), 1, 0, 1);
        simplified(of(20, 20), 1, 1, 1);
    }

    private static void simpleOutside() {
        Check.sentence("12: d or r outside 0..3: BAD");
        for (int r : OUTSIDE) {
            Check.unchanged("simple(" + r + ", 0)", ENDS, desk -> desk.simple(r, 0), BAD);
            Check.unchanged("simple(" + r + ", 3)", ENDS, desk -> desk.simple(r, 3), BAD);
            Check.unchanged("simple(0, " + r + ")", ENDS, desk -> desk.simple(0, r), BAD);
            Check.unchanged("simple(3, " + r + ")", ENDS, desk -> desk.simple(3, r), BAD);
        }
        Check.made("simple(0, 3)", ENDS, desk -> desk.simple(0, 3), 3, 0, -1, 1, -1, 1);
        Check.made("simple(3, 0)", ENDS, desk -> desk.simple(3, 0), 1, 3, -1, 1);
    }

    private static void simpleDoesNotFit() {
        Check.sentence("12: it does not fit: FULL");
        // Each of these has x + 1 or x - 1 twice; the largest coefficient without one of them is told.
        simplified(of(-13, -5, 8, -1, 19, 20), 4, -13, 8, 0, -1, 20);
        simplified(of(9, 11, -18, -20, 13, 13), 4, 9, 2, -20, 0, 13);
        simpleFull(of(-1, 20, 20, -20, -15, 4)); // 21: -1, 21, -1, -19, 4
        simpleFull(of(-9, 13, 17, -20, -18, 17)); // -21: 9, -4, -21, -1, 17
        simpleFull(of(4, 15, -20, -20, 20, 1));
        // A factor alone does not fit, the product of all does.
        simplified(of(1, -20, -20, 1), 3, 1, -20, -20, 1);
    }

    public static void main(String[] args) {
        contentOfZero();
        contentOutside();
        factorsOutside();
        degreeZeroHasNone();
        factorOutside();
        noSuchFactor();
        factorDoesNotFit();
        simpleOfZero();
        simpleOfDegreeZero();
        simpleOutside();
        simpleDoesNotFit();
        Check.finish();
    }
}
