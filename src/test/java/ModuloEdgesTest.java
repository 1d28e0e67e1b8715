/** The edges that promises 13 to 15 name, a method for each sentence. */
public final class ModuloEdgesTest {
    private static final int BAD = FactorDesk.BAD;
    private static final int NONE = FactorDesk.NONE;
    private static final int[] PRIMES = {2, 3, 5, 7};
    private static final int[] MARK = {9, -8, 7, -6, 5, -4};
    private static final int[] OUTSIDE = {Integer.MIN_VALUE, -4, -1, 4, 5, 715827883, Integer.MAX_VALUE};
    // x at both ends of the range.
    private static final int[][] ENDS = {of(0, 1), of(), MARK, of(0, 0, 1)};

    private static int[] of(int... c) {
        return c;
    }

    private static boolean isPrimeHere(int p) {
        return p == 2 || p == 3 || p == 5 || p == 7;
    }

    private static void counted(int p, int answer, int... a) {
        Check.unchanged("factorsModulo(0, " + p + ")", Check.registers(a, MARK), desk -> desk.factorsModulo(0, p), answer);
    }

    private static void degree(int p, int k, int answer, int... a) {
        String call = "degreeModulo(3, " + p + ", " + k + ")";
        Check.unchanged(call, Check.registers(MARK, MARK, MARK, a), desk -> desk.degreeModulo(3, p, k), answer);
    }

    private static void roots(int p, int answer, int... a) {
        Check.unchanged("rootsModulo(1, " + p + ")", Check.registers(MARK, a, MARK), desk -> desk.rootsModulo(1, p), answer);
    }

    /** c, and multiples of p, as large as fit, above it. */
    private static int[] over(int c, int p) {
        int large = 20 / p * p;
        return of(c, p, -p, large, -large, large);
    }

    private static void degreeZeroModulo() {
        Check.sentence("13: 0 if it has the degree 0 modulo p");
        for (int p : PRIMES) {
            for (int c = -20; c <= 20; c++) {
                if (c % p != 0) {
                    counted(p, 0, c);
                    counted(p, 0, over(c, p));
                }
            }
            int[] line = over(0, p);
            line[1] = p + 1;
            counted(p, 1, line);
            line[0] = p - 1;
            counted(p, 1, line);
        }
    }

    private static void factorsModuloOutside() {
        Check.sentence("13: r outside 0..3: BAD");
        for (int p : PRIMES) {
            for (int r : OUTSIDE) {
                Check.unchanged("factorsModulo(" + r + ", " + p + ")", ENDS, desk -> desk.factorsModulo(r, p), BAD);
            }
            Check.unchanged("factorsModulo(0, " + p + ")", ENDS, desk -> desk.factorsModulo(0, p), 1);
            Check.unchanged("factorsModulo(3, " + p + ")", ENDS, desk -> desk.factorsModulo(3, p), 2);
        }
    }

    private static void factorsModuloNoPrime() {
        Check.sentence("13: p not 2, 3, 5 or 7: BAD");
        FactorDesk desk = Check.desk(ENDS);
        for (int p = -60; p <= 140; p++) {
            Check.due("factorsModulo(0, " + p + ")", desk.factorsModulo(0, p), isPrimeHere(p) ? 1 : BAD);
        }
        Check.due("factorsModulo(0, MIN)", desk.factorsModulo(0, Integer.MIN_VALUE), BAD);
        Check.due("factorsModulo(0, MAX)", desk.factorsModulo(0, Integer.MAX_VALUE), BAD);
    }

    private static void allMultiples() {
        Check.sentence("13: all its coefficients are multiples of p: NONE");
        for (int p : PRIMES) {
            counted(p, NONE);
            counted(p, NONE, over(0, p));
            counted(p, NONE, p);
            counted(p, NONE, -p);
            counted(p, NONE, 0, 0, 0, 0, 0, p);
            for (int i = 0; i < 6; i++) {
                // A single one that is no multiple is enough.
                int[] a = over(0, p);
                a[i] = 1 - p;
                counted(p, i, a);
            }
        }
    }

    private static void badBeforeNone() {
        Check.sentence("13: Tested in this order: BAD; NONE");
        for (int r : OUTSIDE) {
            Check.unchanged("factorsModulo(" + r + ", 4)", ENDS, desk -> desk.factorsModulo(r, 4), BAD);
        }
        for (int p : new int[] {Integer.MIN_VALUE, -2, -1, 0, 1, 4, 6, 8, 9, 11, Integer.MAX_VALUE}) {
            Check.unchanged("factorsModulo(1, " + p + ")", ENDS, desk -> desk.factorsModulo(1, p), BAD);
        }
        Check.unchanged("factorsModulo(1, 2)", ENDS, desk -> desk.factorsModulo(1, 2), NONE);
    }

    private static void degreeModuloBad() {
        Check.sentence("14: BAD as for factorsModulo");
        for (int p : PRIMES) {
            for (int r : OUTSIDE) {
                Check.unchanged("degreeModulo(" + r + ", " + p + ", 0)", ENDS, desk -> desk.degreeModulo(r, p, 0), BAD);
                Check.unchanged("degreeModulo(" + r + ", " + p + ", 9)", ENDS, desk -> desk.degreeModulo(r, p, 9), BAD);
            }
            Check.unchanged("degreeModulo(0, " + p + ", 0)", ENDS, desk -> desk.degreeModulo(0, p, 0), 1);
            Check.unchanged("degreeModulo(3, " + p + ", 1)", ENDS, desk -> desk.degreeModulo(3, p, 1), 1);
        }
        FactorDesk desk = Check.desk(ENDS);
        for (int p = -20; p <= 60; p++) {
            Check.due("degreeModulo(0, " + p + ", 0)", desk.degreeModulo(0, p, 0), isPrimeHere(p) ? 1 : BAD);
            Check.due("degreeModulo(0, " + p + ", 1)", desk.degreeModulo(0, p, 1), isPrimeHere(p) ? NONE : BAD);
            Check.due("degreeModulo(1, " + p + ", 0)", desk.degreeModulo(1, p, 0), isPrimeHere(p) ? NONE : BAD);
        }
        Check.due("degreeModulo(0, MIN, 0)", desk.degreeModulo(0, Integer.MIN_VALUE, 0), BAD);
        Check.due("degreeModulo(0, MAX, 0)", desk.degreeModulo(0, Integer.MAX_VALUE, 0), BAD);
    }

    private static void degreeModuloMultiples() {
        Check.sentence("14: NONE as for factorsModulo");
        for (int p : PRIMES) {
            for (int k : new int[] {-1, 0, 1, 5}) {
                degree(p, k, NONE);
                degree(p, k, NONE, over(0, p));
            }
            int[] line = over(0, p);
            line[1] = 1;
            degree(p, 0, 1, line);
        }
    }

    private static void noSuchFactor() {
        Check.sentence("14: there is no factor k: NONE");
        int[][] powers = {of(1), of(0, 1), of(0, 0, 1), of(0, 0, 0, 1), of(0, 0, 0, 0, 1), of(0, 0, 0, 0, 0, 1)};
        for (int p : PRIMES) {
            for (int n = 0; n <= 5; n++) {
                if (n > 0) {
                    degree(p, 0, 1, powers[n]);
                    degree(p, n - 1, 1, powers[n]);
                }
                for (int k : new int[] {Integer.MIN_VALUE, -n - 1, -1, n, n + 1, 6, 1000, Integer.MAX_VALUE}) {
                    degree(p, k, NONE, powers[n]);
                }
            }
        }
        // x^5 - x - 1 is irreducible modulo 5; modulo 2 it is (x^2 + x + 1)(x^3 + x^2 + 1).
        degree(5, 0, 5, -1, -1, 0, 0, 0, 1);
        degree(5, 1, NONE, -1, -1, 0, 0, 0, 1);
        degree(2, 1, 3, -1, -1, 0, 0, 0, 1);
        degree(2, 2, NONE, -1, -1, 0, 0, 0, 1);
        // Modulo 7 the degree of 7x^2 + x + 1 is 1, and that of 7x^2 + 7x + 1 is 0.
        degree(7, 0, 1, 1, 1, 7);
        degree(7, 1, NONE, 1, 1, 7);
        degree(7, 0, NONE, 1, 7, 7);
    }

    private static void smallerFirst() {
        Check.sentence("14: from 0, modulo p, the smaller degrees first");
        // x(x^2 + 1)^2 and x^2(x^3 - x - 1) modulo 3, (x + 1)(x^4 + x + 1) modulo 2.
        int[][] products = {of(0, 1, 0, 2, 0, 1), of(0, 0, -1, -1, 0, 1), of(1, 2, 1, 0, 1, 1)};
        int[] primes = {3, 3, 2};
        int[][] degrees = {{1, 2, 2}, {1, 1, 3}, {1, 4}};
        for (int n = 0; n < products.length; n++) {
            for (int k = 0; k < degrees[n].length; k++) {
                degree(primes[n], k, degrees[n][k], products[n]);
            }
            degree(primes[n], degrees[n].length, NONE, products[n]);
        }
    }

    private static void everyResidue() {
        Check.sentence("15: different x from 0 to p - 1 at which the value of register r is a multiple of p");
        for (int p : PRIMES) {
            roots(p, p);
            roots(p, p, over(0, p));
            roots(p, 0, over(1, p));
            roots(p, 0, -1);
            for (int x = 0; x < p; x++) {
                // Each residue alone, and the same one twice.
                roots(p, 1, -x, 1);
                roots(p, 1, p - x, 1);
                if (x * x <= 20) {
                    roots(p, 1, x * x, -2 * x, 1);
                }
            }
        }
        roots(2, 2, 0, -1, 1);
        roots(3, 3, 0, -1, 0, 1);
        roots(5, 5, 0, -1, 0, 0, 0, 1);
        roots(7, 3, -1, 0, 0, 1);
        roots(7, 5, 20, 20, 20, 20, 20, 20);
        roots(5, 0, -1, -1, 0, 0, 0, 1);
    }

    private static void rootsOutside() {
        Check.sentence("15: r outside 0..3: BAD");
        for (int p : PRIMES) {
            for (int r : OUTSIDE) {
                Check.unchanged("rootsModulo(" + r + ", " + p + ")", ENDS, desk -> desk.rootsModulo(r, p), BAD);
            }
            Check.unchanged("rootsModulo(0, " + p + ")", ENDS, desk -> desk.rootsModulo(0, p), 1);
            Check.unchanged("rootsModulo(3, " + p + ")", ENDS, desk -> desk.rootsModulo(3, p), 1);
        }
    }

    private static void rootsNoPrime() {
        Check.sentence("15: p not 2, 3, 5 or 7: BAD");
        FactorDesk desk = Check.desk(ENDS);
        for (int p = -60; p <= 140; p++) {
            Check.due("rootsModulo(0, " + p + ")", desk.rootsModulo(0, p), isPrimeHere(p) ? 1 : BAD);
            Check.due("rootsModulo(1, " + p + ")", desk.rootsModulo(1, p), isPrimeHere(p) ? p : BAD);
        }
        Check.due("rootsModulo(0, MIN)", desk.rootsModulo(0, Integer.MIN_VALUE), BAD);
        Check.due("rootsModulo(0, MAX)", desk.rootsModulo(0, Integer.MAX_VALUE), BAD);
    }

    public static void main(String[] args) {
        degreeZeroModulo();
        factorsModuloOutside();
        factorsModuloNoPrime();
        allMultiples();
        badBeforeNone();
        degreeModuloBad();
        degreeModuloMultiples();
        noSuchFactor();
        smallerFirst();
        everyResidue();
        rootsOutside();
        rootsNoPrime();
        Check.finish();
    }
}
