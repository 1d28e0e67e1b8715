/** Promise 6: apply. */
public final class ApplyTest {
    private static final int[] MARK = {9, -8, 7, -6, 5, -4};

    /** Register 3 holds the mark before, and the result after; refused, it holds the mark still. */
    private static void due(String name, int op, int[] a, int[] b, int answer, int... result) {
        FactorDesk desk = new FactorDesk();
        Check.put(desk, 0, a);
        Check.put(desk, 1, b);
        Check.put(desk, 3, MARK);
        Check.due(name, desk.apply(op, 3, 0, 1), answer);
        Check.holds(name, desk, 0, a);
        Check.holds(name, desk, 1, b);
        Check.holds(name, desk, 2);
        Check.holds(name, desk, 3, answer < -1 ? MARK : result);
    }

    private static int[] of(int... c) {
        return c;
    }

    private static void sums() {
        due("sum", FactorDesk.ADD, of(1, 2, 3), of(-4, 5, 0, 6), 3, -3, 7, 3, 6);
        due("sum with a lower degree", FactorDesk.ADD, of(1, 2, 3), of(1, 1, -3), 1, 2, 3);
        due("sum zero", FactorDesk.ADD, of(1, -2, 3), of(-1, 2, -3), -1);
        due("sum of zeros", FactorDesk.ADD, of(), of(), -1);
        due("sum 20", FactorDesk.ADD, of(0, 0, 0, 0, 0, 10), of(0, 0, 0, 0, 0, 10), 5, 0, 0, 0, 0, 0, 20);
        due("sum 21", FactorDesk.ADD, of(0, 0, 0, 0, 0, 10), of(0, 0, 0, 0, 0, 11), FactorDesk.FULL);
        due("sum -20", FactorDesk.ADD, of(-10), of(-10), 0, -20);
        due("sum -21", FactorDesk.ADD, of(-10), of(-11), FactorDesk.FULL);
    }

    private static void differences() {
        due("difference", FactorDesk.SUB, of(1, 2, 3), of(-4, 5, 0, 6), 3, 5, -3, 3, -6);
        due("difference zero", FactorDesk.SUB, of(1, 2, 3), of(1, 2, 3), -1);
        due("zero less one", FactorDesk.SUB, of(), of(1), 0, -1);
        due("difference 21", FactorDesk.SUB, of(1, 1), of(-20, 1), FactorDesk.FULL);
        due("difference -20", FactorDesk.SUB, of(-1, 1), of(19), 1, -20, 1);
    }

    private static void products() {
        due("product", FactorDesk.MUL, of(1, 2, 3), of(-1, 1, 0, 1), 5, -1, -1, -1, 4, 2, 3);
        due("product with zero", FactorDesk.MUL, of(1, 2, 3, 4, 5, 6), of(), -1);
        due("zero with a product", FactorDesk.MUL, of(), of(1, 2, 3, 4, 5, 6), -1);
        due("zero times zero", FactorDesk.MUL, of(), of(), -1);
        due("degree 5", FactorDesk.MUL, of(0, 0, 1), of(0, 0, 0, -1), 5, 0, 0, 0, 0, 0, -1);
        due("degree 6", FactorDesk.MUL, of(0, 0, 0, 1), of(0, 0, 0, -1), FactorDesk.FULL);
        due("degree 10", FactorDesk.MUL, of(0, 0, 0, 0, 0, 1), of(0, 0, 0, 0, 0, 1), FactorDesk.FULL);
        due("by a number", FactorDesk.MUL, of(1, 2, 3, 4, 5, -5), of(-4), 5, -4, -8, -12, -16, -20, 20);
        due("coefficient 21", FactorDesk.MUL, of(3, 1), of(7), FactorDesk.FULL);
        due("400", FactorDesk.MUL, of(20), of(20), FactorDesk.FULL);
        due("a large one amid small ones", FactorDesk.MUL, of(-1, 5, 1), of(1, 5, -1), FactorDesk.FULL);
    }

    private static void commonDivisors() {
        due("gcd", FactorDesk.GCD, of(-1, 0, 1), of(1, 2, 1), 1, 1, 1);
        due("gcd is primitive", FactorDesk.GCD, of(-6, 0, 6), of(-4, -4), 1, 1, 1);
        due("gcd of repeated factors", FactorDesk.GCD, of(0, 0, 1, 2, 1), of(0, 0, 0, 1, 1), 3, 0, 0, 1, 1);
        due("gcd counts the fewer of a", FactorDesk.GCD, of(1, 1), of(1, 3, 3, 1), 1, 1, 1);
        due("gcd counts the fewer of b", FactorDesk.GCD, of(1, 3, 3, 1), of(1, 2, 1), 2, 1, 2, 1);
        due("gcd 1", FactorDesk.GCD, of(1, 0, 1), of(-1, 1), 0, 1);
        due("gcd of numbers", FactorDesk.GCD, of(-6), of(4), 0, 1);
        due("gcd of a number and more", FactorDesk.GCD, of(-6), of(12, 12), 0, 1);
        due("gcd with zero", FactorDesk.GCD, of(4, -6, -2), of(), 2, -2, 3, 1);
        due("gcd of zero", FactorDesk.GCD, of(), of(4, -6, -2), 2, -2, 3, 1);
        due("gcd of zero and a number", FactorDesk.GCD, of(), of(-12), 0, 1);
        due("gcd of a number and zero", FactorDesk.GCD, of(-12), of(), 0, 1);
        due("gcd of zeros", FactorDesk.GCD, of(), of(), -1);
        due("gcd with a leading coefficient", FactorDesk.GCD, of(-3, 0, 0, 2), of(3, -3, 0, -2, 2), 3, -3, 0, 0, 2);
        due("gcd of degree 5", FactorDesk.GCD, of(-1, -1, 0, 0, 0, 1), of(2, 2, 0, 0, 0, -2), 5, -1, -1, 0, 0, 0, 1);
        // Both have the factor x^2 - 21x + 1.
        due("gcd too large", FactorDesk.GCD, of(1, -20, -20, 1), of(1, -20, -19, -20, 1), FactorDesk.FULL);
    }

    private static void quotients() {
        due("quotient", FactorDesk.QUOTIENT, of(-1, -1, -1, 4, 2, 3), of(1, 2, 3), 3, -1, 1, 0, 1);
        due("quotient by a number", FactorDesk.QUOTIENT, of(4, -6, 2), of(-2), 2, -2, 3, -1);
        due("zero by something", FactorDesk.QUOTIENT, of(), of(4, 1), -1);
        due("by itself", FactorDesk.QUOTIENT, of(4, 1, 3, 0, 0, -7), of(4, 1, 3, 0, 0, -7), 0, 1);
        due("by zero", FactorDesk.QUOTIENT, of(1, 1), of(), FactorDesk.NONE);
        due("zero by zero", FactorDesk.QUOTIENT, of(), of(), FactorDesk.NONE);
        due("with a rest", FactorDesk.QUOTIENT, of(2, 2, 1), of(1, 1), FactorDesk.NONE);
        due("not whole at the top", FactorDesk.QUOTIENT, of(1, 1), of(2, 2), FactorDesk.NONE);
        due("not whole below", FactorDesk.QUOTIENT, of(1, 2), of(2), FactorDesk.NONE);
        due("by one of a higher degree", FactorDesk.QUOTIENT, of(1, 1), of(0, 1, 1), FactorDesk.NONE);
        due("with a rest at the bottom", FactorDesk.QUOTIENT, of(0, -19, -19, 1), of(1, 1), FactorDesk.NONE);
        due("quotient -20", FactorDesk.QUOTIENT, of(1, -19, -19, 1), of(1, 1), 2, 1, -20, 1);
        due("quotient too large", FactorDesk.QUOTIENT, of(1, -20, -20, 1), of(1, 1), FactorDesk.FULL);
    }

    private static void rests() {
        due("rest", FactorDesk.REST, of(5, 4, 3, 2), of(1, 0, 1), 1, 2, 2);
        due("rest by minus one at the top", FactorDesk.REST, of(5, 4, 3, 2), of(-1, 0, -1), 1, 2, 2);
        due("rest of a lower degree", FactorDesk.REST, of(5, 4), of(1, 0, 1), 1, 5, 4);
        due("rest of an equal degree", FactorDesk.REST, of(5, 4, -3), of(1, 0, 1), 1, 8, 4);
        due("rest of zero", FactorDesk.REST, of(), of(1, 0, 1), -1);
        due("rest by 1", FactorDesk.REST, of(5, 4, 3, 2, 1, 7), of(1), -1);
        due("rest by -1", FactorDesk.REST, of(5, 4, 3, 2, 1, 7), of(-1), -1);
        due("rest by zero", FactorDesk.REST, of(5, 4), of(), FactorDesk.NONE);
        due("rest by 2", FactorDesk.REST, of(4, 4), of(2), FactorDesk.NONE);
        due("rest by 2x", FactorDesk.REST, of(4, 4), of(1, 2), FactorDesk.NONE);
        due("rest by 2x^2, though the degree is below", FactorDesk.REST, of(4, 4), of(1, 0, 2), FactorDesk.NONE);
        due("rest by -2x", FactorDesk.REST, of(4, 4), of(1, -2), FactorDesk.NONE);
        due("rest 20", FactorDesk.REST, of(0, 0, 5), of(-2, 1), 0, 20);
        due("rest too large", FactorDesk.REST, of(1, 0, 5), of(-2, 1), FactorDesk.FULL);
        due("rest much too large", FactorDesk.REST, of(20, 20, 20, 20, 20, 20), of(-20, 1), FactorDesk.FULL);
    }

    private static void badNumbers() {
        FactorDesk desk = new FactorDesk();
        Check.put(desk, 0, MARK);
        for (int op = 0; op < 6; op++) {
            for (int r : new int[] {-1, 4, Integer.MIN_VALUE, Integer.MAX_VALUE}) {
                Check.due("apply d " + r, desk.apply(op, r, 0, 0), FactorDesk.BAD);
                Check.due("apply a " + r, desk.apply(op, 0, r, 0), FactorDesk.BAD);
                Check.due("apply b " + r, desk.apply(op, 0, 0, r), FactorDesk.BAD);
                Check.due("BAD before NONE", desk.apply(op, r, 0, 1), FactorDesk.BAD);
            }
        }
        for (int op : new int[] {-1, 6, Integer.MIN_VALUE, Integer.MAX_VALUE}) {
            Check.due("apply op " + op, desk.apply(op, 0, 0, 0), FactorDesk.BAD);
        }
        Check.holds("after BAD", desk, 0, MARK);
    }

    private static void sameRegister() {
        FactorDesk desk = new FactorDesk();
        Check.put(desk, 0, 1, 1);
        Check.due("square", desk.apply(FactorDesk.MUL, 0, 0, 0), 2);
        Check.holds("square", desk, 0, 1, 2, 1);
        Check.put(desk, 1, 1, 1);
        Check.due("quotient into b", desk.apply(FactorDesk.QUOTIENT, 1, 0, 1), 1);
        Check.holds("quotient into b", desk, 1, 1, 1);
        Check.due("gcd into a", desk.apply(FactorDesk.GCD, 0, 0, 1), 1);
        Check.holds("gcd into a", desk, 0, 1, 1);
        Check.due("difference into both", desk.apply(FactorDesk.SUB, 0, 0, 0), -1);
        Check.holds("difference into both", desk, 0);
    }

    public static void main(String[] args) {
        sums();
        differences();
        products();
        commonDivisors();
        quotients();
        rests();
        badNumbers();
        sameRegister();
        Check.finish();
    }
}
