import java.math.BigInteger;
import java.util.ArrayList;
import java.util.List;

/**
 * The document's promises once more, over BigInteger and by other ways than the program's: factors
 * by Kronecker's interpolation, the common divisor by Euclid, simple by the derivative, and factors
 * modulo p by powers of x. A polynomial is an array without zeros at its top; zero has length 0.
 */
final class Reference {
    static final int BAD = -1000;
    static final int FULL = -1001;
    static final int NONE = -1002;

    private static final BigInteger ZERO = BigInteger.ZERO;
    private static final BigInteger ONE = BigInteger.ONE;
    private static final BigInteger LIMIT = BigInteger.valueOf(20);

    final int[][] held = new int[4][6];

    // ---- the public face

    boolean set(int r, int i, int c) {
        if (bad(r) || i < 0 || i > 5 || c < -20 || c > 20) {
            return false;
        }
        held[r][i] = c;
        return true;
    }

    int get(int r, int i) {
        return bad(r) || i < 0 || i > 5 ? BAD : held[r][i];
    }

    int degree(int r) {
        return bad(r) ? BAD : polynomial(r).length - 1;
    }

    long at(int r, int x) {
        return bad(r) || x < -1000 || x > 1000 ? 0 : value(polynomial(r), x).longValueExact();
    }

    int apply(int op, int d, int a, int b) {
        if (op < 0 || op > 5 || bad(d) || bad(a) || bad(b)) {
            return BAD;
        }
        BigInteger[] p = polynomial(a);
        BigInteger[] q = polynomial(b);
        if (op == 0) {
            return keep(d, add(p, q));
        }
        if (op == 1) {
            return keep(d, add(p, scale(q, BigInteger.valueOf(-1))));
        }
        if (op == 2) {
            return keep(d, multiply(p, q));
        }
        if (op == 3) {
            return keep(d, common(p, q));
        }
        if (q.length == 0) {
            return NONE;
        }
        if (op == 4) {
            BigInteger[] quotient = quotient(p, q);
            return quotient == null ? NONE : keep(d, quotient);
        }
        BigInteger lead = q[q.length - 1];
        return lead.abs().equals(ONE) ? keep(d, scaledRest(p, q)) : NONE;
    }

    int derive(int d, int a) {
        return bad(d) || bad(a) ? BAD : keep(d, derivative(polynomial(a)));
    }

    int shift(int d, int a, int t) {
        if (bad(d) || bad(a) || t < -3 || t > 3) {
            return BAD;
        }
        BigInteger[] sum = {};
        BigInteger[] power = {ONE};
        BigInteger[] step = trim(new BigInteger[] {BigInteger.valueOf(t), ONE});
        for (BigInteger c : polynomial(a)) {
            sum = add(sum, scale(power, c));
            power = multiply(power, step);
        }
        return keep(d, sum);
    }

    int content(int r) {
        return bad(r) ? BAD : contentOf(polynomial(r)).intValueExact();
    }

    int factors(int r) {
        return bad(r) ? BAD : factorsOf(polynomial(r)).size();
    }

    int factor(int d, int r, int k) {
        if (bad(d) || bad(r)) {
            return BAD;
        }
        List<BigInteger[]> all = factorsOf(polynomial(r));
        return k < 0 || k >= all.size() ? NONE : keep(d, all.get(k));
    }

    int simple(int d, int r) {
        if (bad(d) || bad(r)) {
            return BAD;
        }
        BigInteger[] p = primitive(polynomial(r));
        if (p.length > 1) {
            p = primitive(quotient(p, common(p, derivative(p))));
        }
        return keep(d, p);
    }

    int factorsModulo(int r, int p) {
        if (bad(r) || p != 2 && p != 3 && p != 5 && p != 7) {
            return BAD;
        }
        int[] f = modulo(r, p);
        return f.length == 0 ? NONE : degreesModulo(f, p).size();
    }

    int degreeModulo(int r, int p, int k) {
        int count = factorsModulo(r, p);
        if (count < 0) {
            return count;
        }
        return k < 0 || k >= count ? NONE : degreesModulo(modulo(r, p), p).get(k);
    }

    int rootsModulo(int r, int p) {
        if (bad(r) || p != 2 && p != 3 && p != 5 && p != 7) {
            return BAD;
        }
        int roots = 0;
        for (int x = 0; x < p; x++) {
            if (value(polynomial(r), x).mod(BigInteger.valueOf(p)).signum() == 0) {
                roots++;
            }
        }
        return roots;
    }

    // ---- registers

    private static boolean bad(int r) {
        return r < 0 || r > 3;
    }

    private BigInteger[] polynomial(int r) {
        BigInteger[] p = new BigInteger[6];
        for (int i = 0; i < 6; i++) {
            p[i] = BigInteger.valueOf(held[r][i]);
        }
        return trim(p);
    }

    private int keep(int d, BigInteger[] p) {
        if (p.length > 6) {
            return FULL;
        }
        for (BigInteger c : p) {
            if (c.abs().compareTo(LIMIT) > 0) {
                return FULL;
            }
        }
        for (int i = 0; i < 6; i++) {
            held[d][i] = i < p.length ? p[i].intValueExact() : 0;
        }
        return p.length - 1;
    }

    // ---- polynomials with whole coefficients

    private static BigInteger[] trim(BigInteger[] p) {
        int n = p.length;
        while (n > 0 && p[n - 1].signum() == 0) {
            n--;
        }
        BigInteger[] q = new BigInteger[n];
        System.arraycopy(p, 0, q, 0, n);
        return q;
    }

    private static BigInteger coefficient(BigInteger[] p, int i) {
        return i < p.length ? p[i] : ZERO;
    }

    private static BigInteger[] add(BigInteger[] p, BigInteger[] q) {
        BigInteger[] sum = new BigInteger[Math.max(p.length, q.length)];
        for (int i = 0; i < sum.length; i++) {
            sum[i] = coefficient(p, i).add(coefficient(q, i));
        }
        return trim(sum);
    }

    private static BigInteger[] scale(BigInteger[] p, BigInteger by) {
        BigInteger[] q = new BigInteger[p.length];
        for (int i = 0; i < p.length; i++) {
            q[i] = p[i].multiply(by);
        }
        return trim(q);
    }

    private static BigInteger[] multiply(BigInteger[] p, BigInteger[] q) {
        BigInteger[] product = new BigInteger[p.length + q.length];
        java.util.Arrays.fill(product, ZERO);
        for (int i = 0; i < p.length; i++) {
            for (int j = 0; j < q.length; j++) {
                product[i + j] = product[i + j].add(p[i].multiply(q[j]));
            }
        }
        return trim(product);
    }

    private static BigInteger[] derivative(BigInteger[] p) {
        BigInteger[] q = new BigInteger[Math.max(0, p.length - 1)];
        for (int i = 1; i < p.length; i++) {
            q[i - 1] = p[i].multiply(BigInteger.valueOf(i));
        }
        return trim(q);
    }

    private static BigInteger value(BigInteger[] p, long x) {
        BigInteger sum = ZERO;
        for (int i = 0; i < p.length; i++) {
            sum = sum.add(p[i].multiply(BigInteger.valueOf(x).pow(i)));
        }
        return sum;
    }

    private static BigInteger contentOf(BigInteger[] p) {
        BigInteger g = ZERO;
        for (BigInteger c : p) {
            g = g.gcd(c);
        }
        return g;
    }

    private static BigInteger[] primitive(BigInteger[] p) {
        if (p.length == 0) {
            return p;
        }
        BigInteger by = contentOf(p);
        if (p[p.length - 1].signum() < 0) {
            by = by.negate();
        }
        BigInteger[] q = new BigInteger[p.length];
        for (int i = 0; i < p.length; i++) {
            q[i] = p[i].divide(by);
        }
        return q;
    }

    /** The rest of p, times a power of the square of q's leading coefficient, on division by q. */
    private static BigInteger[] scaledRest(BigInteger[] p, BigInteger[] q) {
        BigInteger lead = q[q.length - 1];
        BigInteger[] rest = p;
        while (rest.length >= q.length) {
            BigInteger[] term = new BigInteger[rest.length - q.length + 1];
            java.util.Arrays.fill(term, ZERO);
            term[term.length - 1] = rest[rest.length - 1].multiply(lead).negate();
            rest = add(scale(rest, lead.multiply(lead)), multiply(term, q));
        }
        return rest;
    }

    private static BigInteger[] common(BigInteger[] p, BigInteger[] q) {
        BigInteger[] a = primitive(p);
        BigInteger[] b = primitive(q);
        while (b.length > 0) {
            BigInteger[] rest = primitive(scaledRest(a, b));
            a = b;
            b = rest;
        }
        return a;
    }

    /** null if q doesn't divide p. */
    private static BigInteger[] quotient(BigInteger[] p, BigInteger[] q) {
        BigInteger[] quotient = {};
        BigInteger[] rest = p;
        while (rest.length >= q.length) {
            BigInteger[] parts = rest[rest.length - 1].divideAndRemainder(q[q.length - 1]);
            if (parts[1].signum() != 0) {
                return null;
            }
            BigInteger[] term = new BigInteger[rest.length - q.length + 1];
            java.util.Arrays.fill(term, ZERO);
            term[term.length - 1] = parts[0];
            quotient = add(quotient, term);
            rest = add(rest, scale(multiply(term, q), BigInteger.valueOf(-1)));
        }
        return rest.length == 0 ? quotient : null;
    }

    // ---- factors, after Kronecker: the values of a divisor divide the values of the polynomial

    private static List<BigInteger[]> factorsOf(BigInteger[] p) {
        List<BigInteger[]> all = new ArrayList<>();
        BigInteger[] left = primitive(p);
        while (left.length > 1) {
            BigInteger[] next = smallestFactor(left);
            all.add(next);
            left = quotient(left, next);
        }
        all.sort(Reference::compare);
        return all;
    }

    private static int compare(BigInteger[] p, BigInteger[] q) {
        if (p.length != q.length) {
            return p.length - q.length;
        }
        for (int i = p.length - 1; i >= 0; i--) {
            if (!p[i].equals(q[i])) {
                return p[i].compareTo(q[i]);
            }
        }
        return 0;
    }

    private static BigInteger[] smallestFactor(BigInteger[] p) {
        for (int x = -21; x <= 21; x++) {
            if (value(p, x).signum() == 0) {
                return new BigInteger[] {BigInteger.valueOf(-x), ONE};
            }
        }
        for (int n = 1; 2 * n < p.length; n++) {
            int[] points = bestPoints(p, n + 1);
            BigInteger[] divisor = searchDivisor(p, points, new BigInteger[n + 1], 0);
            if (divisor != null) {
                return divisor;
            }
        }
        return p;
    }

    private static int[] bestPoints(BigInteger[] p, int count) {
        List<Integer> points = new ArrayList<>();
        for (int x = -6; x <= 6; x++) {
            points.add(x);
        }
        points.sort((x, y) -> divisors(value(p, x)).size() - divisors(value(p, y)).size());
        int[] best = new int[count];
        for (int i = 0; i < count; i++) {
            best[i] = points.get(i);
        }
        return best;
    }

    private static List<BigInteger> divisors(BigInteger n) {
        List<BigInteger> all = new ArrayList<>();
        long m = n.abs().longValueExact();
        for (long d = 1; d * d <= m; d++) {
            if (m % d == 0) {
                all.add(BigInteger.valueOf(d));
                if (d * d != m) {
                    all.add(BigInteger.valueOf(m / d));
                }
            }
        }
        return all;
    }

    private static BigInteger[] searchDivisor(BigInteger[] p, int[] points, BigInteger[] values, int i) {
        if (i == points.length) {
            BigInteger[] g = interpolate(points, values);
            if (g == null || g.length < 2) {
                return null;
            }
            BigInteger[] candidate = primitive(g);
            return quotient(p, candidate) == null ? null : candidate;
        }
        for (BigInteger d : divisors(value(p, points[i]))) {
            for (int sign = 0; sign < (i == 0 ? 1 : 2); sign++) {
                values[i] = sign == 0 ? d : d.negate();
                BigInteger[] divisor = searchDivisor(p, points, values, i + 1);
                if (divisor != null) {
                    return divisor;
                }
            }
        }
        return null;
    }

    /** By divided differences at two or three points; null if they are not whole. */
    private static BigInteger[] interpolate(int[] x, BigInteger[] y) {
        BigInteger[] first = y[1].subtract(y[0]).divideAndRemainder(BigInteger.valueOf(x[1] - x[0]));
        if (first[1].signum() != 0) {
            return null;
        }
        BigInteger[] g = {y[0].subtract(first[0].multiply(BigInteger.valueOf(x[0]))), first[0]};
        if (x.length == 2) {
            return trim(g);
        }
        BigInteger gap = y[2].subtract(value(g, x[2]));
        BigInteger span = BigInteger.valueOf((long) (x[2] - x[0]) * (x[2] - x[1]));
        BigInteger[] second = gap.divideAndRemainder(span);
        if (second[1].signum() != 0) {
            return null;
        }
        BigInteger[] square = {BigInteger.valueOf((long) x[0] * x[1]), BigInteger.valueOf(-x[0] - x[1]), ONE};
        return add(trim(g), scale(square, second[0]));
    }

    // ---- modulo p: x to the power p^n, less x, is the product of the irreducible ones of a degree
    // that divides n

    private int[] modulo(int r, int p) {
        int[] f = new int[6];
        for (int i = 0; i < 6; i++) {
            f[i] = Math.floorMod(held[r][i], p);
        }
        return trim(f);
    }

    private static List<Integer> degreesModulo(int[] f, int p) {
        List<Integer> degrees = new ArrayList<>();
        int[] left = f;
        for (int n = 1; left.length > 1; n++) {
            int[] g = commonModulo(left, frobeniusLessX(left, p, n), p);
            while (g.length > 1) {
                for (int i = 0; i < (g.length - 1) / n; i++) {
                    degrees.add(n);
                }
                left = divideModulo(left, g, p)[0];
                g = commonModulo(left, frobeniusLessX(left, p, n), p);
            }
        }
        return degrees;
    }

    private static int[] frobeniusLessX(int[] f, int p, int n) {
        int[] power = divideModulo(new int[] {0, 1}, f, p)[1];
        for (int i = 0; i < n; i++) {
            int[] base = power;
            for (int j = 1; j < p; j++) {
                power = divideModulo(multiplyModulo(power, base, p), f, p)[1];
            }
        }
        int[] less = new int[Math.max(2, power.length)];
        System.arraycopy(power, 0, less, 0, power.length);
        less[1] = Math.floorMod(less[1] - 1, p);
        return trim(less);
    }

    private static int[] commonModulo(int[] f, int[] g, int p) {
        int[] a = f;
        int[] b = g;
        while (b.length > 0) {
            int[] rest = divideModulo(a, b, p)[1];
            a = b;
            b = rest;
        }
        return a;
    }

    private static int[] multiplyModulo(int[] f, int[] g, int p) {
        int[] product = new int[f.length + g.length];
        for (int i = 0; i < f.length; i++) {
            for (int j = 0; j < g.length; j++) {
                product[i + j] = (product[i + j] + f[i] * g[j]) % p;
            }
        }
        return trim(product);
    }

    private static int[][] divideModulo(int[] f, int[] g, int p) {
        int inverse = 1;
        while (inverse * g[g.length - 1] % p != 1) {
            inverse++;
        }
        int[] rest = f.clone();
        int[] quotient = new int[Math.max(1, f.length)];
        for (int i = f.length - g.length; i >= 0; i--) {
            quotient[i] = rest[i + g.length - 1] * inverse % p;
            for (int j = 0; j < g.length; j++) {
                rest[i + j] = Math.floorMod(rest[i + j] - quotient[i] * g[j], p);
            }
        }
        return new int[][] {trim(quotient), trim(rest)};
    }

    private static int[] trim(int[] f) {
        int n = f.length;
        while (n > 0 && f[n - 1] == 0) {
            n--;
        }
        int[] g = new int[n];
        System.arraycopy(f, 0, g, 0, n);
        return g;
    }
}
