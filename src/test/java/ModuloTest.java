/** Promises 13 to 15: factorsModulo, degreeModulo, rootsModulo. */
public final class ModuloTest {
    private static final int[] PRIMES = {2, 3, 5, 7};

    private static int[] of(int... c) {
        return c;
    }

    private static void factored(int[] a, int p, int roots, int... degrees) {
        FactorDesk desk = new FactorDesk();
        Check.put(desk, 1, a);
        Check.due("factorsModulo(1, " + p + ")", desk.factorsModulo(1, p), degrees.length);
        for (int k = 0; k < degrees.length; k++) {
            Check.due("degreeModulo(1, " + p + ", " + k + ")", desk.degreeModulo(1, p, k), degrees[k]);
        }
        for (int k : new int[] {-1, degrees.length, Integer.MIN_VALUE, Integer.MAX_VALUE}) {
            Check.due("degreeModulo(1, " + p + ", " + k + ")", desk.degreeModulo(1, p, k), FactorDesk.NONE);
        }
        Check.due("rootsModulo(1, " + p + ")", desk.rootsModulo(1, p), roots);
        Check.holds("modulo", desk, 1, a);
    }

    private static void allMultiples(int p, int... a) {
        FactorDesk desk = new FactorDesk();
        Check.put(desk, 1, a);
        Check.due("factorsModulo(1, " + p + ")", desk.factorsModulo(1, p), FactorDesk.NONE);
        Check.due("degreeModulo(1, " + p + ", 0)", desk.degreeModulo(1, p, 0), FactorDesk.NONE);
        Check.due("rootsModulo(1, " + p + ")", desk.rootsModulo(1, p), p);
    }

    private static void ordinary() {
        factored(of(-1, 0, 0, 0, 1), 2, 1, 1, 1, 1, 1);
        factored(of(-1, 0, 0, 0, 1), 3, 2, 1, 1, 2);
        factored(of(-1, 0, 0, 0, 1), 5, 4, 1, 1, 1, 1);
        factored(of(-1, 0, 0, 0, 1), 7, 2, 1, 1, 2);
        factored(of(1, 0, 0, 0, 1), 3, 0, 2, 2);
        factored(of(1, 1, 1), 2, 0, 2);
        factored(of(1, 1, 0, 1), 2, 0, 3);
        factored(of(1, 1, 0, 0, 1), 2, 0, 4);
        factored(of(1, 0, 1, 0, 0, 1), 2, 0, 5);
        factored(of(1, 1, 0, 0, 0, 1), 2, 0, 2, 3);
        factored(of(0, 1, 0, 1, 0, 1), 2, 1, 1, 2, 2);
        // x^p - x has every root.
        factored(of(0, -1, 1), 2, 2, 1, 1);
        factored(of(0, -1, 0, 1), 3, 3, 1, 1, 1);
        factored(of(0, -1, 0, 0, 0, 1), 5, 5, 1, 1, 1, 1, 1);
        factored(of(-1, -1, 0, 0, 0, 1), 5, 0, 5);
    }

    private static void lowerDegrees() {
        // The degree modulo p may be below that of the register.
        factored(of(1, 1, 0, 0, 0, 14), 7, 1, 1);
        factored(of(1, 0, -3, 9), 3, 0);
        factored(of(-6), 5, 0);
        factored(of(4, 0, 0, 5, 10, 20), 5, 0);
        factored(of(-2, 0, -3, 0, 0, 20), 5, 2, 1, 1);
        factored(of(-3, 0, 3), 2, 1, 1, 1);
        factored(of(0, 0, 0, 0, 0, -20), 7, 1, 1, 1, 1, 1, 1);
    }

    private static void multiples() {
        for (int p : PRIMES) {
            allMultiples(p);
            allMultiples(p, p);
            allMultiples(p, -p, 0, 2 * p, -2 * p, 0, p);
        }
        factored(of(3, 6, -9, 12, 1), 3, 1, 1, 1, 1, 1);
    }

    private static void badNumbers() {
        FactorDesk desk = new FactorDesk();
        Check.put(desk, 0, 1, 1);
        for (int r : new int[] {-1, 4, Integer.MIN_VALUE, Integer.MAX_VALUE}) {
            for (int p : PRIMES) {
                Check.due("factorsModulo(" + r + ", " + p + ")", desk.factorsModulo(r, p), FactorDesk.BAD);
                Check.due("degreeModulo(" + r + ", " + p + ", 0)", desk.degreeModulo(r, p, 0), FactorDesk.BAD);
                Check.due("rootsModulo(" + r + ", " + p + ")", desk.rootsModulo(r, p), FactorDesk.BAD);
            }
        }
        for (int p : new int[] {-7, -2, -1, 0, 1, 4, 6, 8, 9, 10, 11, 13, Integer.MIN_VALUE, Integer.MAX_VALUE}) {
            for (int r = 0; r < 2; r++) {
                Check.due("factorsModulo(" + r + ", " + p + ")", desk.factorsModulo(r, p), FactorDesk.BAD);
                Check.due("degreeModulo(" + r + ", " + p + ", 0)", desk.degreeModulo(r, p, 0), FactorDesk.BAD);
                Check.due("rootsModulo(" + r + ", " + p + ")", desk.rootsModulo(r, p), FactorDesk.BAD);
            }
        }
    }

    public static void main(String[] args) {
        ordinary();
        lowerDegrees();
        multiples();
        badNumbers();
        Check.finish();
    }
}
