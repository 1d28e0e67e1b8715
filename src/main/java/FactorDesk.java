/** Polynomials with small whole coefficients, and their factors. */
public final class FactorDesk {
    public static final int BAD = -1000;
    public static final int FULL = -1001;
    public static final int NONE = -1002;
    public static final int ADD = 0;
    public static final int SUB = 1;
    public static final int MUL = 2;
    public static final int GCD = 3;
    public static final int QUOTIENT = 4;
    public static final int REST = 5;

    private static final int REGISTERS = 4;
    private static final int TERMS = 6;
    private static final int HELD_TERMS = 24;
    private static final int HIGHEST = 5;
    private static final int LARGEST = 20;
    private static final int FARTHEST = 1000;
    private static final int WIDEST_SHIFT = 3;

    // Each factor has a degree of at least 1, so there are at most as many as the highest degree.
    private static final int MOST_FACTORS = 5;
    private static final int FOUND_TERMS = 30;

    // The Mahler measure of a divisor is at most that of the polynomial, which is at most the root
    // of the sum of its squared coefficients: 20 * sqrt(6) < 49. The middle coefficient of a
    // divisor of degree 2 is at most twice its measure.
    private static final int LARGEST_MIDDLE = 98;

    // Coefficient i of register r is at r * TERMS + i.
    private final int[] held = new int[HELD_TERMS];

    // Work polynomials are long, since what doesn't fit a register must still be told exactly.
    private final long[] result = new long[TERMS];
    private final long[] operand = new long[TERMS];
    private final long[] quotient = new long[TERMS];
    private final long[] rest = new long[TERMS];
    private final long[] work = new long[TERMS];

    // Coefficient i of the factor k that was found last is at k * TERMS + i.
    private final long[] found = new long[FOUND_TERMS];
    private int foundCount;

    public FactorDesk() {
        // New arrays hold zeros, and that is what the registers must hold.
    }

    public boolean set(int r, int i, int c) {
        if (!isRegister(r) || !isPower(i) || c < -LARGEST || c > LARGEST) {
            return false;
        }
        held[r * TERMS + i] = c;
        return true;
    }

    public int get(int r, int i) {
        if (!isRegister(r) || !isPower(i)) {
            return BAD;
        }
        return held[r * TERMS + i];
    }

    public int degree(int r) {
        if (!isRegister(r)) {
            return BAD;
        }
        load(r, result);
        return degreeOf(result);
    }

    public long at(int r, int x) {
        if (!isRegister(r) || x < -FARTHEST || x > FARTHEST) {
            return 0;
        }
        return valueAt(r, x);
    }

    public int apply(int op, int d, int a, int b) {
        if (op < ADD || op > REST || !isRegister(d) || !isRegister(a) || !isRegister(b)) {
            return BAD;
        }
        load(a, result);
        load(b, operand);
        switch (op) {
            case ADD:
                addOperandTimes(1);
                break;
            case SUB:
                addOperandTimes(-1);
                break;
            case MUL:
                if (degreeOf(result) + degreeOf(operand) > HIGHEST) {
                    return FULL;
                }
                multiplyByOperand();
                break;
            case GCD:
                makeCommonDivisor(a, b);
                break;
            case QUOTIENT:
                if (!makeQuotient()) {
                    return NONE;
                }
                break;
            default:
                if (!makeRest()) {
                    return NONE;
                }
                break;
        }
        return keepResult(d);
    }

    public int derive(int d, int a) {
        if (!isRegister(d) || !isRegister(a)) {
            return BAD;
        }
        load(a, operand);
        clear(result);
        for (int i = 1; i < TERMS; i++) {
            result[i - 1] = i * operand[i];
        }
        return keepResult(d);
    }

    public int shift(int d, int a, int t) {
        if (!isRegister(d) || !isRegister(a) || t < -WIDEST_SHIFT || t > WIDEST_SHIFT) {
            return BAD;
        }
        load(a, result);
        // Each round is a division by x - t: its rest is the next coefficient in powers of x - t.
        for (int i = 0; i < HIGHEST; i++) {
            for (int j = HIGHEST - 1; j >= i; j--) {
                result[j] += t * result[j + 1];
            }
        }
        return keepResult(d);
    }

    public int content(int r) {
        if (!isRegister(r)) {
            return BAD;
        }
        load(r, result);
        return contentOf(result);
    }

    public int factors(int r) {
        if (!isRegister(r)) {
            return BAD;
        }
        findFactors(r);
        return foundCount;
    }

    public int factor(int d, int r, int k) {
        if (!isRegister(d) || !isRegister(r)) {
            return BAD;
        }
        findFactors(r);
        if (k < 0 || k >= foundCount) {
            return NONE;
        }
        loadFound(k, result);
        return keepResult(d);
    }

    public int simple(int d, int r) {
        if (!isRegister(d) || !isRegister(r)) {
            return BAD;
        }
        load(r, result);
        if (degreeOf(result) >= 0) {
            findFactors(r);
            makeProductOfDifferent();
        }
        return keepResult(d);
    }

    public int factorsModulo(int r, int p) {
        if (!isRegister(r) || !isModulus(p)) {
            return BAD;
        }
        if (!findFactorsModulo(r, p)) {
            return NONE;
        }
        return foundCount;
    }

    public int degreeModulo(int r, int p, int k) {
        if (!isRegister(r) || !isModulus(p)) {
            return BAD;
        }
        if (!findFactorsModulo(r, p) || k < 0 || k >= foundCount) {
            return NONE;
        }
        loadFound(k, result);
        return degreeOf(result);
    }

    public int rootsModulo(int r, int p) {
        if (!isRegister(r) || !isModulus(p)) {
            return BAD;
        }
        int roots = 0;
        for (int x = 0; x < p; x++) {
            if (valueAt(r, x) % p == 0) {
                roots++;
            }
        }
        return roots;
    }

    private static boolean isRegister(int r) {
        return r >= 0 && r < REGISTERS;
    }

    private static boolean isPower(int i) {
        return i >= 0 && i < TERMS;
    }

    private static boolean isModulus(int p) {
        return p == 2 || p == 3 || p == 5 || p == 7;
    }

    private static int degreeOf(long[] p) {
        for (int i = HIGHEST; i >= 0; i--) {
            if (p[i] != 0) {
                return i;
            }
        }
        return -1;
    }

    private static long leadOf(long[] p) {
        int top = degreeOf(p);
        return top < 0 ? 0 : p[top];
    }

    private static void clear(long[] p) {
        for (int i = 0; i < TERMS; i++) {
            p[i] = 0;
        }
    }

    private static void copy(long[] from, long[] to) {
        for (int i = 0; i < TERMS; i++) {
            to[i] = from[i];
        }
    }

    private void load(int r, long[] to) {
        for (int i = 0; i < TERMS; i++) {
            to[i] = held[r * TERMS + i];
        }
    }

    private void loadFound(int k, long[] to) {
        for (int i = 0; i < TERMS; i++) {
            to[i] = found[k * TERMS + i];
        }
    }

    private void addFound(long[] p) {
        if (foundCount >= MOST_FACTORS) {
            return;
        }
        for (int i = 0; i < TERMS; i++) {
            found[foundCount * TERMS + i] = p[i];
        }
        foundCount++;
    }

    private int keepResult(int d) {
        for (int i = 0; i < TERMS; i++) {
            if (result[i] < -LARGEST || result[i] > LARGEST) {
                return FULL;
            }
        }
        for (int i = 0; i < TERMS; i++) {
            held[d * TERMS + i] = (int) result[i];
        }
        return degreeOf(result);
    }

    private long valueAt(int r, int x) {
        long value = 0;
        for (int i = HIGHEST; i >= 0; i--) {
            value = value * x + held[r * TERMS + i];
        }
        return value;
    }

    private void addOperandTimes(int sign) {
        for (int i = 0; i < TERMS; i++) {
            result[i] += sign * operand[i];
        }
    }

    // Only for a product of a degree of at most HIGHEST: terms above it would be lost.
    private void multiplyByOperand() {
        copy(result, work);
        clear(result);
        for (int i = 0; i < TERMS; i++) {
            for (int j = 0; i + j < TERMS; j++) {
                result[i + j] += work[i] * operand[j];
            }
        }
    }

    private boolean makeQuotient() {
        int size = degreeOf(operand);
        if (!divide(result, size) || degreeOf(result) >= 0) {
            return false;
        }
        copy(quotient, result);
        return true;
    }

    private boolean makeRest() {
        long lead = leadOf(operand);
        if (lead != 1 && lead != -1) {
            return false;
        }
        int size = degreeOf(operand);
        return divide(result, size);
    }

    // Divides by the operand, whose degree is size (told by the caller, to keep the calls flat).
    // What is left over stays in place. False: the quotient isn't whole, and both are of no use.
    private boolean divide(long[] dividend, int size) {
        long lead = size < 0 ? 0 : operand[size];
        if (lead == 0) {
            return false;
        }
        for (int i = 0; i < TERMS; i++) {
            quotient[i] = 0;
        }
        for (int i = HIGHEST - size; i >= 0; i--) {
            if (dividend[i + size] % lead != 0) {
                return false;
            }
            quotient[i] = dividend[i + size] / lead;
            for (int j = 0; j <= size; j++) {
                dividend[i + j] -= quotient[i] * operand[j];
            }
        }
        return true;
    }

    private static int contentOf(long[] p) {
        if (degreeOf(p) < 0) {
            return 0;
        }
        for (int c = LARGEST; c > 1; c--) {
            if (dividesAll(c, p)) {
                return c;
            }
        }
        return 1;
    }

    private static boolean dividesAll(int c, long[] p) {
        for (int i = 0; i < TERMS; i++) {
            if (c == 0 || p[i] % c != 0) {
                return false;
            }
        }
        return true;
    }

    private static void makePrimitive(long[] p) {
        int scale = contentOf(p);
        if (scale == 0) {
            return;
        }
        if (leadOf(p) < 0) {
            scale = -scale;
        }
        for (int i = 0; i < TERMS; i++) {
            p[i] /= scale;
        }
    }

    // By way of the factors, since the usual sequence of rests would outgrow a long.
    private void makeCommonDivisor(int a, int b) {
        if (degreeOf(result) < 0) {
            load(b, result);
            makePrimitive(result);
            return;
        }
        findFactors(a);
        // Zero is divided by every factor and stays zero: then all the factors of a are common.
        load(b, rest);
        clear(result);
        result[0] = 1;
        for (int k = 0; k < foundCount; k++) {
            loadFound(k, operand);
            int size = degreeOf(operand);
            if (divideRest(size)) {
                multiplyByOperand();
            }
        }
    }

    private void makeProductOfDifferent() {
        clear(result);
        result[0] = 1;
        for (int k = 0; k < foundCount; k++) {
            if (!isFoundBefore(k)) {
                loadFound(k, operand);
                multiplyByOperand();
            }
        }
    }

    // Equal factors stand side by side, as they are ordered.
    private boolean isFoundBefore(int k) {
        if (k < 1) {
            return false;
        }
        for (int i = 0; i < TERMS; i++) {
            if (found[k * TERMS + i] != found[(k - 1) * TERMS + i]) {
                return false;
            }
        }
        return true;
    }

    // What has a degree of at most 5 and no divisor of degree 1 or 2 is irreducible. The divisors
    // are tried in the order of factors, so that those found are ordered.
    private void findFactors(int r) {
        foundCount = 0;
        load(r, rest);
        makePrimitive(rest);
        if (degreeOf(rest) < 1) {
            return;
        }
        takeFactors(0, 1, LARGEST);
        for (int top = 1; top <= LARGEST; top++) {
            if (degreeOf(rest) > 3 && leadOf(rest) % top == 0) {
                takeFactors(top, -LARGEST_MIDDLE, LARGEST_MIDDLE);
            }
        }
        if (degreeOf(rest) > 0) {
            addFound(rest);
        }
    }

    // The lowest coefficient of a divisor divides that of the rest, which, but for powers of x,
    // divides one of a register: so it is 0 (in the factor x) or no larger than LARGEST.
    private void takeFactors(int top, int from, int to) {
        int size = top == 0 ? 1 : 2;
        for (int middle = from; middle <= to; middle++) {
            for (int low = -LARGEST; low <= LARGEST; low++) {
                if (low == 0 ? rest[0] != 0 : rest[0] % low != 0) {
                    continue;
                }
                makeOperand(top, middle, low);
                for (int n = 0; n < MOST_FACTORS && divideRest(size); n++) {
                    addFound(operand);
                }
            }
        }
    }

    private void makeOperand(int top, int middle, int low) {
        clear(operand);
        operand[2] = top;
        operand[1] = middle;
        operand[0] = low;
    }

    private boolean divideRest(int size) {
        copy(rest, work);
        if (!divide(work, size) || degreeOf(work) >= 0) {
            return false;
        }
        copy(quotient, rest);
        return true;
    }

    // False: all the coefficients are multiples of p.
    private boolean findFactorsModulo(int r, int p) {
        foundCount = 0;
        load(r, rest);
        reduce(rest, p);
        if (degreeOf(rest) < 0) {
            return false;
        }
        for (int low = 0; low < p; low++) {
            makeOperand(0, 1, low);
            takeOperandModulo(1, p);
        }
        for (int middle = 0; middle < p; middle++) {
            for (int low = 0; low < p; low++) {
                makeOperand(1, middle, low);
                takeOperandModulo(2, p);
            }
        }
        if (degreeOf(rest) > 0) {
            addFound(rest);
        }
        return true;
    }

    private void takeOperandModulo(int size, int p) {
        for (int n = 0; n < MOST_FACTORS && divideRestModulo(size, p); n++) {
            addFound(operand);
        }
    }

    // The leading coefficient of the operand is 1, so that the division is whole.
    private boolean divideRestModulo(int size, int p) {
        copy(rest, work);
        if (!divide(work, size)) {
            return false;
        }
        reduce(work, p);
        if (degreeOf(work) >= 0) {
            return false;
        }
        reduce(quotient, p);
        copy(quotient, rest);
        return true;
    }

    private static void reduce(long[] q, int p) {
        for (int i = 0; i < TERMS; i++) {
            q[i] = (q[i] % p + p) % p;
        }
    }
}
