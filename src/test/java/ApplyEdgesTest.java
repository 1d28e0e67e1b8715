/** The edges that promise 6 names, a method for each sentence. */
public final class ApplyEdgesTest {
    private static final int BAD = FactorDesk.BAD;
    private static final int FULL = FactorDesk.FULL;
    private static final int NONE = FactorDesk.NONE;
    private static final int[] MARK = {9, -8, 7, -6, 5, -4};
    private static final int[] ZERO = {};
    private static final int[] OUTSIDE = {Integer.MIN_VALUE, -4, -1, 4, 5, 715827883, Integer.MAX_VALUE};

    private static int[] of(int... c) {
        return c;
    }

    /** A power of x with this coefficient. */
    private static int[] term(int power, int c) {
        int[] term = new int[6];
        term[power] = c;
        return term;
    }

    /** Into a third register, and over a and b themselves: the place of the result is no part of it. */
    private static void made(int op, int[] a, int[] b, int answer, int... result) {
        int[][] held = {a, b, MARK, MARK};
        for (int d = 0; d < 3; d++) {
            int into = d;
            Check.made("apply(" + op + ", " + d + ", 0, 1)", held, desk -> desk.apply(op, into, 0, 1), answer, d, result);
        }
    }

    private static void refused(int op, int[] a, int[] b, int code) {
        int[][] held = {a, b, MARK, MARK};
        for (int d = 0; d < 4; d++) {
            int into = d;
            Check.unchanged("apply(" + op + ", " + d + ", 0, 1)", held, desk -> desk.apply(op, into, 0, 1), code);
        }
    }

    private static void divisorWithOneZero() {
        Check.sentence("6: GCD: that of the other one, if one is zero");
        int[][] others = {of(4, -6, -2), of(-20), of(20), of(1), of(0, 0, 0, 0, 0, -20), of(-1, -1, 0, 0, 0, 1), of(3, 0, -6)};
        int[][] primitive = {of(-2, 3, 1), of(1), of(1), of(1), of(0, 0, 0, 0, 0, 1), of(-1, -1, 0, 0, 0, 1), of(-1, 0, 2)};
        for (int n = 0; n < others.length; n++) {
            made(FactorDesk.GCD, others[n], ZERO, primitive[n].length - 1, primitive[n]);
            made(FactorDesk.GCD, ZERO, others[n], primitive[n].length - 1, primitive[n]);
        }
        // Not zero, but as near to it as may be.
        made(FactorDesk.GCD, of(4, -6, -2), of(1), 0, 1);
        made(FactorDesk.GCD, of(-1), of(4, -6, -2), 0, 1);
    }

    private static void divisorOfZeros() {
        Check.sentence("6: GCD: zero for two zeros");
        made(FactorDesk.GCD, ZERO, ZERO, -1);
        made(FactorDesk.GCD, ZERO, of(1), 0, 1);
        made(FactorDesk.GCD, of(-1), ZERO, 0, 1);
        Check.made("of one register", Check.registers(MARK), desk -> desk.apply(FactorDesk.GCD, 0, 3, 3), -1, 0);
    }

    private static void leadingOneOnly() {
        Check.sentence("6: REST: only for b with the leading coefficient 1 or -1");
        for (int lead = -20; lead <= 20; lead++) {
            if (lead * lead == 1) {
                made(FactorDesk.REST, of(3, 0, 2), of(1, lead), 0, 5);
                made(FactorDesk.REST, of(3, 2), of(1, 0, 0, 0, 0, lead), 1, 3, 2);
                made(FactorDesk.REST, of(3, 0, 2), of(lead), -1);
                made(FactorDesk.REST, ZERO, of(1, lead), -1);
                continue;
            }
            if (lead != 0) {
                refused(FactorDesk.REST, of(0, lead, lead), of(1, lead), NONE);
                refused(FactorDesk.REST, of(lead, lead), of(1, 0, 0, 0, 0, lead), NONE);
                refused(FactorDesk.REST, of(lead, lead), of(lead), NONE);
                refused(FactorDesk.REST, ZERO, of(1, lead), NONE);
            }
        }
        // It is the coefficient of the degree that counts, not that of another power.
        refused(FactorDesk.REST, of(3, 2), of(1, 1, 1, 1, 2), NONE);
        made(FactorDesk.REST, of(0, 0, 0, 1), of(2, 2, 1), 1, 4, 2);
    }

    private static void badOperation() {
        Check.sentence("6: op outside 0..5: BAD");
        int[][] held = {of(1, 2, 1), of(1, 1), MARK, MARK};
        for (int op : new int[] {Integer.MIN_VALUE, -2, -1, 6, 7, Integer.MAX_VALUE}) {
            Check.unchanged("apply(" + op + ", 2, 0, 1)", held, desk -> desk.apply(op, 2, 0, 1), BAD);
        }
        made(FactorDesk.ADD, of(1, 2, 1), of(1, 1), 2, 2, 3, 1);
        made(FactorDesk.REST, of(1, 2, 1), of(1, 1), -1);
    }

    private static void badRegister() {
        Check.sentence("6: a register number outside 0..3: BAD");
        int[][] held = {of(1, 2, 1), of(1, 1), MARK, of(1)};
        for (int op = 0; op < 6; op++) {
            int what = op;
            for (int r : OUTSIDE) {
                Check.unchanged("apply(" + op + ", " + r + ", 0, 1)", held, desk -> desk.apply(what, r, 0, 1), BAD);
                Check.unchanged("apply(" + op + ", 2, " + r + ", 1)", held, desk -> desk.apply(what, 2, r, 1), BAD);
                Check.unchanged("apply(" + op + ", 2, 0, " + r + ")", held, desk -> desk.apply(what, 2, 0, r), BAD);
            }
        }
        Check.made("apply(ADD, 0, 3, 0)", held, desk -> desk.apply(FactorDesk.ADD, 0, 3, 0), 2, 0, 2, 2, 1);
        Check.made("apply(ADD, 3, 0, 3)", held, desk -> desk.apply(FactorDesk.ADD, 3, 0, 3), 2, 3, 2, 2, 1);
    }

    private static void byZero() {
        Check.sentence("6: in QUOTIENT and REST, b is zero: NONE");
        for (int[] a : Check.registers(ZERO, of(1), of(-20), MARK)) {
            refused(FactorDesk.QUOTIENT, a, ZERO, NONE);
            refused(FactorDesk.REST, a, ZERO, NONE);
        }
        made(FactorDesk.QUOTIENT, ZERO, of(1), -1);
        made(FactorDesk.REST, ZERO, of(1), -1);
        made(FactorDesk.QUOTIENT, MARK, of(-1), 5, -9, 8, -7, 6, -5, 4);
        made(FactorDesk.REST, MARK, of(-1), -1);
        // Zero is refused in these two alone.
        made(FactorDesk.ADD, MARK, ZERO, 5, MARK);
        made(FactorDesk.SUB, MARK, ZERO, 5, MARK);
        made(FactorDesk.MUL, MARK, ZERO, -1);
    }

    private static void notDividing() {
        Check.sentence("6: in QUOTIENT, b does not divide a: NONE");
        refused(FactorDesk.QUOTIENT, of(2, 2, 1), of(1, 1), NONE);
        refused(FactorDesk.QUOTIENT, of(1, 1), of(2), NONE);
        refused(FactorDesk.QUOTIENT, of(1, 2), of(2), NONE);
        refused(FactorDesk.QUOTIENT, of(2, 1), of(2), NONE);
        refused(FactorDesk.QUOTIENT, of(1, 1), of(2, 2), NONE);
        refused(FactorDesk.QUOTIENT, of(1, 1), of(0, 1, 1), NONE);
        refused(FactorDesk.QUOTIENT, of(1), of(0, 0, 0, 0, 0, 1), NONE);
        // The rest has only a term above the lowest one.
        refused(FactorDesk.QUOTIENT, of(1, 1, 1), of(1, 0, 1), NONE);
        refused(FactorDesk.QUOTIENT, of(1, 0, 0, 0, 0, 20), of(1, 0, 0, 0, 0, 10), NONE);
        made(FactorDesk.QUOTIENT, of(1, 2, 1), of(1, 1), 1, 1, 1);
        made(FactorDesk.QUOTIENT, of(2, 2), of(2), 1, 1, 1);
        made(FactorDesk.QUOTIENT, of(2, 2), of(-1, -1), 0, -2);
        made(FactorDesk.QUOTIENT, of(1, 0, 1), of(1, 0, 1), 0, 1);
        made(FactorDesk.QUOTIENT, ZERO, of(0, 0, 0, 0, 0, 7), -1);
        made(FactorDesk.QUOTIENT, of(-20, 0, 0, 0, 0, 20), of(20), 5, -1, 0, 0, 0, 0, 1);
    }

    private static void sumDoesNotFit() {
        Check.sentence("6: the result does not fit: FULL (ADD, SUB)");
        for (int i = 0; i < 6; i++) {
            int[] large = term(i, 20);
            int[] small = term(i, -20);
            made(FactorDesk.ADD, term(i, 19), term(i, 1), i, large);
            made(FactorDesk.ADD, term(i, -19), term(i, -1), i, small);
            made(FactorDesk.SUB, term(i, 19), term(i, -1), i, large);
            made(FactorDesk.SUB, term(i, -19), term(i, 1), i, small);
            refused(FactorDesk.ADD, large, term(i, 1), FULL);
            refused(FactorDesk.ADD, small, term(i, -1), FULL);
            refused(FactorDesk.SUB, large, term(i, -1), FULL);
            refused(FactorDesk.SUB, small, term(i, 1), FULL);
            made(FactorDesk.ADD, large, small, -1);
            made(FactorDesk.SUB, large, large, -1);
            refused(FactorDesk.ADD, large, large, FULL);
            refused(FactorDesk.SUB, small, large, FULL);
        }
    }

    private static void productDoesNotFit() {
        Check.sentence("6: the result does not fit: FULL (MUL)");
        for (int i = 0; i < 6; i++) {
            for (int j = 0; j < 6; j++) {
                if (i + j < 6) {
                    made(FactorDesk.MUL, term(i, 4), term(j, -5), i + j, term(i + j, -20));
                    made(FactorDesk.MUL, term(i, -20), term(j, -1), i + j, term(i + j, 20));
                    refused(FactorDesk.MUL, term(i, 3), term(j, 7), FULL);
                    refused(FactorDesk.MUL, term(i, 3), term(j, -7), FULL);
                    refused(FactorDesk.MUL, term(i, 20), term(j, 20), FULL);
                } else {
                    refused(FactorDesk.MUL, term(i, 1), term(j, 1), FULL);
                }
            }
            made(FactorDesk.MUL, term(i, 20), ZERO, -1);
            made(FactorDesk.MUL, ZERO, term(i, 20), -1);
        }
        // Only a coefficient in the middle is at the edge.
        made(FactorDesk.MUL, of(4, 4, 1), of(1, 4), 3, 4, 20, 17, 4);
        refused(FactorDesk.MUL, of(4, 5, 1), of(1, 4), FULL);
    }

    private static void divisorDoesNotFit() {
        Check.sentence("6: the result does not fit: FULL (GCD)");
        // Products of x^2 - 20x + 1 with x + 1 and with x, and their mirror images.
        made(FactorDesk.GCD, of(1, -19, -19, 1), of(0, 1, -20, 1), 2, 1, -20, 1);
        made(FactorDesk.GCD, of(-1, -19, 19, 1), of(0, 1, 20, 1), 2, 1, 20, 1);
        // Products of x^2 - 21x + 1 with x + 1 and with x^2 + x + 1, and their mirror images.
        refused(FactorDesk.GCD, of(1, -20, -20, 1), of(1, -20, -19, -20, 1), FULL);
        refused(FactorDesk.GCD, of(-1, -20, 20, 1), of(1, 20, -19, 20, 1), FULL);
    }

    private static void quotientDoesNotFit() {
        Check.sentence("6: the result does not fit: FULL (QUOTIENT)");
        made(FactorDesk.QUOTIENT, of(1, -19, -19, 1), of(1, 1), 2, 1, -20, 1);
        made(FactorDesk.QUOTIENT, of(-1, -19, 19, 1), of(-1, 1), 2, 1, 20, 1);
        refused(FactorDesk.QUOTIENT, of(1, -20, -20, 1), of(1, 1), FULL);
        refused(FactorDesk.QUOTIENT, of(-1, -20, 20, 1), of(-1, 1), FULL);
        refused(FactorDesk.QUOTIENT, of(0, 1, -20, -20, 1), of(1, 1), FULL);
        made(FactorDesk.QUOTIENT, of(0, 0, 0, 0, 0, -20), of(0, 1), 4, 0, 0, 0, 0, -20);
    }

    private static void restDoesNotFit() {
        Check.sentence("6: the result does not fit: FULL (REST)");
        made(FactorDesk.REST, of(19, 1), of(-1, 1), 0, 20);
        refused(FactorDesk.REST, of(20, 1), of(-1, 1), FULL);
        made(FactorDesk.REST, of(-19, 1), of(1, 1), 0, -20);
        refused(FactorDesk.REST, of(-20, 1), of(1, 1), FULL);
        made(FactorDesk.REST, of(-19, 1), of(-1, -1), 0, -20);
        refused(FactorDesk.REST, of(-20, 1), of(-1, -1), FULL);
        // Only the coefficient below the degree of b is too large.
        made(FactorDesk.REST, of(0, 0, 0, 0, 10, 1), of(0, 0, 0, 0, -10, 1), 4, 0, 0, 0, 0, 20);
        refused(FactorDesk.REST, of(0, 0, 0, 0, 11, 1), of(0, 0, 0, 0, -10, 1), FULL);
        // What b is multiplied by has the coefficient -21, but only the rest must fit.
        made(FactorDesk.REST, of(2, -20, -20, 1), of(1, 1), 0, 1);
        made(FactorDesk.REST, of(2, -20, -20, 1), of(-1, -1), 0, 1);
        refused(FactorDesk.REST, of(20, 20, 20, 20, 20, 20), of(-20, 1), FULL);
    }

    private static void badBeforeNone() {
        Check.sentence("6: Tested in this order: BAD; NONE");
        int[][] held = {of(1, 1), ZERO, of(3, 2), MARK};
        for (int r : OUTSIDE) {
            Check.unchanged("QUOTIENT by zero into " + r, held, desk -> desk.apply(FactorDesk.QUOTIENT, r, 0, 1), BAD);
            Check.unchanged("QUOTIENT of " + r + " by zero", held, desk -> desk.apply(FactorDesk.QUOTIENT, 0, r, 1), BAD);
            Check.unchanged("QUOTIENT, not dividing, into " + r, held, desk -> desk.apply(FactorDesk.QUOTIENT, r, 0, 2), BAD);
            Check.unchanged("REST by zero into " + r, held, desk -> desk.apply(FactorDesk.REST, r, 0, 1), BAD);
            Check.unchanged("REST of " + r + " by zero", held, desk -> desk.apply(FactorDesk.REST, 0, r, 1), BAD);
            Check.unchanged("REST by 2x + 3 into " + r, held, desk -> desk.apply(FactorDesk.REST, r, 0, 2), BAD);
        }
        Check.unchanged("op 6 with b zero", held, desk -> desk.apply(6, 0, 0, 1), BAD);
        Check.unchanged("op -1 with b zero", held, desk -> desk.apply(-1, 0, 0, 1), BAD);
        Check.unchanged("QUOTIENT by zero", held, desk -> desk.apply(FactorDesk.QUOTIENT, 0, 0, 1), NONE);
        Check.unchanged("REST by zero", held, desk -> desk.apply(FactorDesk.REST, 0, 0, 1), NONE);
    }

    private static void badBeforeFull() {
        Check.sentence("6: Tested in this order: BAD; FULL");
        int[][] held = {of(1, -20, -20, 1), of(1, 1), of(20), of(1, -20, -19, -20, 1)};
        for (int r : OUTSIDE) {
            Check.unchanged("ADD into " + r, held, desk -> desk.apply(FactorDesk.ADD, r, 2, 2), BAD);
            Check.unchanged("SUB into " + r, held, desk -> desk.apply(FactorDesk.SUB, r, 0, 2), BAD);
            Check.unchanged("MUL into " + r, held, desk -> desk.apply(FactorDesk.MUL, r, 0, 0), BAD);
            Check.unchanged("GCD into " + r, held, desk -> desk.apply(FactorDesk.GCD, r, 0, 3), BAD);
            Check.unchanged("QUOTIENT into " + r, held, desk -> desk.apply(FactorDesk.QUOTIENT, r, 0, 1), BAD);
            Check.unchanged("REST into " + r, held, desk -> desk.apply(FactorDesk.REST, r, 3, 1), BAD);
        }
        Check.unchanged("MUL", held, desk -> desk.apply(FactorDesk.MUL, 1, 0, 0), FULL);
        Check.unchanged("QUOTIENT", held, desk -> desk.apply(FactorDesk.QUOTIENT, 1, 0, 1), FULL);
    }

    private static void noneBeforeFull() {
        Check.sentence("6: Tested in this order: NONE; FULL");
        // The quotient would be x^2 - 21x + 1, but 1 is left over.
        refused(FactorDesk.QUOTIENT, of(2, -20, -20, 1), of(1, 1), NONE);
        refused(FactorDesk.QUOTIENT, of(1, -20, -20, 1), of(1, 1), FULL);
        // With x - 10 in place of 2x - 20 the rests would be 21 and 2201.
        refused(FactorDesk.REST, of(1, 2), of(-20, 2), NONE);
        refused(FactorDesk.REST, of(1, 20, 20), of(-20, 2), NONE);
        refused(FactorDesk.REST, of(1, 2), of(-10, 1), FULL);
        refused(FactorDesk.REST, of(1, 20, 20), of(-10, 1), FULL);
    }

    private static void nothingChanges() {
        Check.sentence("6: In these cases nothing changes.");
        // The coefficients that do fit stand below and above the one that does not.
        int[][] held = {of(1, -20, -20, 1), of(1, 1, 0, 1), of(1, 1), ZERO};
        for (int n = 0; n < 4; n++) {
            int d = n;
            Check.unchanged("ADD into " + d, held, desk -> desk.apply(FactorDesk.ADD, d, 0, 0), FULL);
            Check.unchanged("SUB into " + d, held, desk -> desk.apply(FactorDesk.SUB, d, 1, 0), FULL);
            Check.unchanged("MUL into " + d, held, desk -> desk.apply(FactorDesk.MUL, d, 0, 2), FULL);
            Check.unchanged("MUL of degree 6 into " + d, held, desk -> desk.apply(FactorDesk.MUL, d, 1, 1), FULL);
            Check.unchanged("QUOTIENT into " + d, held, desk -> desk.apply(FactorDesk.QUOTIENT, d, 0, 2), FULL);
            Check.unchanged("REST into " + d, held, desk -> desk.apply(FactorDesk.REST, d, 0, 1), FULL);
            Check.unchanged("QUOTIENT, not dividing, into " + d, held, desk -> desk.apply(FactorDesk.QUOTIENT, d, 1, 2), NONE);
            Check.unchanged("QUOTIENT by zero into " + d, held, desk -> desk.apply(FactorDesk.QUOTIENT, d, 0, 3), NONE);
            Check.unchanged("REST by zero into " + d, held, desk -> desk.apply(FactorDesk.REST, d, 0, 3), NONE);
            Check.unchanged("BAD op into " + d, held, desk -> desk.apply(6, d, 0, 1), BAD);
            Check.unchanged("BAD a into " + d, held, desk -> desk.apply(FactorDesk.ADD, d, 4, 1), BAD);
            Check.unchanged("BAD b into " + d, held, desk -> desk.apply(FactorDesk.ADD, d, 1, -1), BAD);
        }
        refused(FactorDesk.GCD, of(1, -20, -20, 1), of(1, -20, -19, -20, 1), FULL);
        refused(FactorDesk.REST, of(1, 2, 3), of(5, 3), NONE);
    }

    private static void answersTheDegree() {
        Check.sentence("6: Else answers the degree of the result.");
        made(FactorDesk.ADD, of(1, 2, 3), of(1, 1, -3), 1, 2, 3);
        made(FactorDesk.SUB, of(1, 2, 3), of(0, 2, 3), 0, 1);
        made(FactorDesk.SUB, of(1, 2, 3), of(1, 2, 3), -1);
        made(FactorDesk.MUL, of(0, 0, 1), of(1, 0, 0, 1), 5, 0, 0, 1, 0, 0, 1);
        made(FactorDesk.GCD, of(-6, 0, 6), of(-4, -4), 1, 1, 1);
        made(FactorDesk.QUOTIENT, of(0, 0, 0, 0, 0, 6), of(0, 0, -2), 3, 0, 0, 0, -3);
        made(FactorDesk.REST, of(5, 4, 3, 2), of(1, 0, 1), 1, 2, 2);
        made(FactorDesk.REST, of(5, 2, 3, 2), of(1, 0, 1), 0, 2);
    }

    public static void main(String[] args) {
        divisorWithOneZero();
        divisorOfZeros();
        leadingOneOnly();
        badOperation();
        badRegister();
        byZero();
        notDividing();
        sumDoesNotFit();
        productDoesNotFit();
        divisorDoesNotFit();
        quotientDoesNotFit();
        restDoesNotFit();
        badBeforeNone();
        badBeforeFull();
        noneBeforeFull();
        nothingChanges();
        answersTheDegree();
        Check.finish();
    }
}
