/** Promises 9 to 12: content, factors, factor, simple. */
public final class FactorTest {
    private static final int[] MARK = {9, -8, 7, -6, 5, -4};

    private static int[] of(int... c) {
        return c;
    }

    /** The factors in their order; one that holds a coefficient outside -20..20 is FULL. */
    private static void factored(int[] a, int[]... factors) {
        FactorDesk desk = new FactorDesk();
        Check.put(desk, 0, a);
        Check.put(desk, 3, MARK);
        Check.due("factors(0)", desk.factors(0), factors.length);
        Check.holds("factors(0)", desk, 0, a);
        for (int k = 0; k < factors.length; k++) {
            Check.put(desk, 1, MARK);
            boolean full = !fits(factors[k]);
            int answer = full ? FactorDesk.FULL : factors[k].length - 1;
            Check.due("factor(1, 0, " + k + ")", desk.factor(1, 0, k), answer);
            Check.holds("factor(1, 0, " + k + ")", desk, 1, full ? MARK : factors[k]);
        }
        for (int k : new int[] {-1, factors.length, factors.length + 1, Integer.MIN_VALUE, Integer.MAX_VALUE}) {
            Check.due("factor(3, 0, " + k + ")", desk.factor(3, 0, k), FactorDesk.NONE);
        }
        Check.holds("factor", desk, 0, a);
        Check.holds("factor", desk, 3, MARK);
    }

    private static boolean fits(int[] c) {
        for (int value : c) {
            if (value < -20 || value > 20) {
                return false;
            }
        }
        return true;
    }

    private static void simplified(int[] a, int answer, int... result) {
        FactorDesk desk = new FactorDesk();
        Check.put(desk, 0, a);
        Check.put(desk, 2, MARK);
        Check.due("simple(2, 0)", desk.simple(2, 0), answer);
        Check.holds("simple(2, 0)", desk, 0, a);
        Check.holds("simple(2, 0)", desk, 2, answer < -1 ? MARK : result);
        Check.due("simple(0, 0)", desk.simple(0, 0), answer);
        Check.holds("simple(0, 0)", desk, 0, answer < -1 ? a : result);
    }

    private static void contained(int answer, int... a) {
        FactorDesk desk = new FactorDesk();
        Check.put(desk, 2, a);
        Check.due("content(2)", desk.content(2), answer);
        Check.holds("content(2)", desk, 2, a);
    }

    private static void contents() {
        contained(0);
        for (int c = 1; c <= 20; c++) {
            contained(c, 0, 0, 0, 0, 0, c);
            contained(c, -c);
        }
        contained(6, 12, 0, -18, 6);
        contained(1, 6, 10, 15);
        contained(5, 20, -15);
        contained(2, -20, 0, 0, 0, 18);
    }

    private static void none() {
        factored(of());
        factored(of(1));
        factored(of(-20));
    }

    private static void linear() {
        factored(of(0, 1), of(0, 1));
        factored(of(0, -7), of(0, 1));
        factored(of(6, -4), of(-3, 2));
        factored(of(-20, 19), of(-20, 19));
        factored(of(-19, 20), of(-19, 20));
        factored(of(0, 0, 0, 0, 0, -20), of(0, 1), of(0, 1), of(0, 1), of(0, 1), of(0, 1));
        factored(of(1, 5, 10, 10, 5, 1), of(1, 1), of(1, 1), of(1, 1), of(1, 1), of(1, 1));
        // x - 1, x, x + 1, 2x - 1, 2x + 1: the higher power is looked at first.
        factored(of(0, 1, 0, -5, 0, 4), of(-1, 1), of(0, 1), of(1, 1), of(-1, 2), of(1, 2));
        factored(of(20, -1, -1), of(-4, 1), of(5, 1));
        factored(of(-20, 19, 1), of(-1, 1), of(20, 1));
        factored(of(-1, 19, 20), of(1, 1), of(-1, 20));
        // The largest ends beside a factor of degree 2.
        factored(of(-1, 20, -1, 20), of(-1, 20), of(1, 0, 1));
        factored(of(20, 1, 20, 1), of(20, 1), of(1, 0, 1));
        factored(of(-20, 1, -20, 1), of(-20, 1), of(1, 0, 1));
    }

    private static void quadratic() {
        factored(of(1, 0, 1), of(1, 0, 1));
        factored(of(-4, 0, 2), of(-2, 0, 1));
        factored(of(4, 0, 0, 0, 1), of(2, -2, 1), of(2, 2, 1));
        factored(of(1, 0, 1, 0, 1), of(1, -1, 1), of(1, 1, 1));
        factored(of(1, 0, 2, 0, 1), of(1, 0, 1), of(1, 0, 1));
        factored(of(0, 1, 0, 2, 0, 1), of(0, 1), of(1, 0, 1), of(1, 0, 1));
        factored(of(6, 0, 5, 0, 1), of(2, 0, 1), of(3, 0, 1));
        factored(of(-6, 0, -1, 0, 1), of(-3, 0, 1), of(2, 0, 1));
        // Of equal degree: the smaller leading coefficient first, whatever stands below.
        factored(of(2, 0, 5, 0, 2), of(2, 0, 1), of(1, 0, 2));
        factored(of(20, 0, 9, 0, 1), of(4, 0, 1), of(5, 0, 1));
        factored(of(1, 0, 9, 0, 20), of(1, 0, 4), of(1, 0, 5));
        // x^5 + x + 1 and x^5 + x^4 + 1.
        factored(of(1, 1, 0, 0, 0, 1), of(1, 1, 1), of(1, 0, -1, 1));
        factored(of(1, 0, 0, 0, 1, 1), of(1, 1, 1), of(1, -1, 0, 1));
        // The largest ends beside a factor of degree 3.
        factored(of(1, -1, 20, -19, 0, 20), of(1, 0, 20), of(1, -1, 0, 1));
        factored(of(20, 0, -19, 20, -1, 1), of(20, 0, 1), of(1, 0, -1, 1));
        factored(of(-20, 0, -19, -20, 1, 1), of(-20, 0, 1), of(1, 0, 1, 1));
    }

    private static void larger() {
        factored(of(-2, 0, 0, 1), of(-2, 0, 0, 1));
        factored(of(1, 0, -10, 0, 1), of(1, 0, -10, 0, 1));
        factored(of(-1, -1, 0, 0, 0, 1), of(-1, -1, 0, 0, 0, 1));
        factored(of(2, 2, 0, 0, 0, -2), of(-1, -1, 0, 0, 0, 1));
        factored(of(-2, -2, 0, 0, 1, 1), of(1, 1), of(-2, 0, 0, 0, 1));
        factored(of(0, 0, -2, 0, 0, 1), of(0, 1), of(0, 1), of(-2, 0, 0, 1));
        factored(of(20, 20, 20, 20, 20, 20), of(1, 1), of(1, -1, 1), of(1, 1, 1));
    }

    private static void tooLarge() {
        factored(of(1, -20, -20, 1), of(1, 1), of(1, -21, 1));
        factored(of(1, 20, -20, -1), of(-1, 1), of(1, 21, 1));
        factored(of(1, -20, -19, -20, 1), of(1, -21, 1), of(1, 1, 1));
        factored(of(1, 20, -19, 20, 1), of(1, -1, 1), of(1, 21, 1));
        factored(of(0, 19, -20, -20, 19), of(0, 1), of(1, 1), of(19, -39, 19));
        factored(of(4, 15, -20, -20, 20, 1), of(-1, 1), of(-1, 1), of(4, 23, 22, 1));
    }

    private static void simples() {
        simplified(of(), -1);
        simplified(of(1), 0, 1);
        simplified(of(-20), 0, 1);
        simplified(of(-6, 4), 1, -3, 2);
        simplified(of(6, -4), 1, -3, 2);
        simplified(of(0, 0, 0, 0, 0, -20), 1, 0, 1);
        simplified(of(1, 5, 10, 10, 5, 1), 1, 1, 1);
        simplified(of(0, 1, 0, 2, 0, 1), 3, 0, 1, 0, 1);
        simplified(of(0, 0, 1, 2, 1), 2, 0, 1, 1);
        simplified(of(0, 2, 0, 0, 0, -2), 5, 0, -1, 0, 0, 0, 1);
        simplified(of(4, 0, -4, 0, 1), 2, -2, 0, 1);
        simplified(of(1, -20, -20, 1), 3, 1, -20, -20, 1);
        // (x - 1)^2 (x^3 + 22x^2 + 23x + 4), without one x - 1.
        simplified(of(4, 15, -20, -20, 20, 1), FactorDesk.FULL);
        simplified(of(-12, 15, 19, -19, -19, 16), FactorDesk.FULL);
    }

    private static void badNumbers() {
        FactorDesk desk = new FactorDesk();
        Check.put(desk, 0, 4, 15, -20, -20, 20, 1);
        for (int r : new int[] {-1, 4, Integer.MIN_VALUE, Integer.MAX_VALUE}) {
            Check.due("content(" + r + ")", desk.content(r), FactorDesk.BAD);
            Check.due("factors(" + r + ")", desk.factors(r), FactorDesk.BAD);
            Check.due("factor(" + r + ", 0, 0)", desk.factor(r, 0, 0), FactorDesk.BAD);
            Check.due("factor(0, " + r + ", 0)", desk.factor(0, r, 0), FactorDesk.BAD);
            Check.due("simple(" + r + ", 0)", desk.simple(r, 0), FactorDesk.BAD);
            Check.due("simple(0, " + r + ")", desk.simple(0, r), FactorDesk.BAD);
        }
        Check.holds("after BAD", desk, 0, 4, 15, -20, -20, 20, 1);
    }

    private static void intoItself() {
        FactorDesk desk = new FactorDesk();
        Check.put(desk, 0, -1, 0, 0, 0, 1);
        Check.due("factor(0, 0, 2)", desk.factor(0, 0, 2), 2);
        Check.holds("factor(0, 0, 2)", desk, 0, 1, 0, 1);
        Check.due("factors(0)", desk.factors(0), 1);
    }

    public static void main(String[] args) {
        contents();
        none();
        linear();
        quadratic();
        larger();
        tooLarge();
        simples();
        badNumbers();
        intoItself();
        Check.finish();
    }
}
