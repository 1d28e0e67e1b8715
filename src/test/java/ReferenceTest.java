/** Long runs of calls, each answered as the reference answers it, with all registers looked at. */
public final class ReferenceTest {
    private static final int[] EDGES = {
        Integer.MIN_VALUE, -1002, -1001, -1000, -21, -20, -4, -3, -1, 0, 1, 2, 3, 4, 5, 6, 7, 8, 11,
        20, 21, 999, 1000, 1001, 715827883, Integer.MAX_VALUE
    };
    private static final int RUNS = 6000;
    private static final int CALLS = 14;

    // Fixed at the start, so that each run of the test is the same.
    private static long seed = 20261115L;

    private static int below(int n) {
        seed = seed * 6364136223846793005L + 1442695040888963407L;
        return (int) ((seed >>> 33) % n);
    }

    private static int between(int from, int to) {
        return from + below(to - from + 1);
    }

    private static int mostly(int from, int to) {
        return below(40) == 0 ? EDGES[below(EDGES.length)] : between(from, to);
    }

    private static int prime() {
        int[] primes = {2, 3, 5, 7};
        return below(30) == 0 ? EDGES[below(EDGES.length)] : primes[below(4)];
    }

    private static FactorDesk desk;
    private static Reference model;

    private static void put(int r, int[] c) {
        for (int i = 0; i < 6; i++) {
            int value = i < c.length ? c[i] : 0;
            Check.due("set(" + r + ", " + i + ", " + value + ")", desk.set(r, i, value), model.set(r, i, value));
        }
    }

    private static int[] some(int degree, int size) {
        int[] c = new int[degree + 1];
        for (int i = 0; i <= degree; i++) {
            c[i] = below(4) == 0 ? 0 : between(-size, size);
        }
        return c;
    }

    private static int[] product(int[] f, int[] g) {
        int[] h = new int[f.length + g.length - 1];
        for (int i = 0; i < f.length; i++) {
            for (int j = 0; j < g.length; j++) {
                h[i + j] += f[i] * g[j];
            }
        }
        return h;
    }

    private static boolean fits(int[] c) {
        for (int i = 0; i < c.length; i++) {
            if (i > 5 && c[i] != 0 || c[i] < -20 || c[i] > 20) {
                return false;
            }
        }
        return true;
    }

    /** A product of a few small polynomials that fits, as such ones have more to tell. */
    private static int[] composed() {
        for (int n = 0; n < 200; n++) {
            int split = between(1, 4);
            int[] c = product(some(split, between(1, 24)), some(5 - split, between(1, 6)));
            if (below(3) == 0) {
                int[] line = some(1, 4);
                c = product(product(line, line), some(between(0, 3), between(1, 20)));
            }
            if (fits(c)) {
                return c;
            }
        }
        return some(5, 20);
    }

    private static void call() {
        int d = mostly(0, 3);
        int a = mostly(0, 3);
        int b = mostly(0, 3);
        int p = prime();
        int k = mostly(-1, 5);
        switch (below(17)) {
            case 0: {
                int c = mostly(-20, 20);
                int i = mostly(0, 5);
                Check.due("set(" + d + ", " + i + ", " + c + ")", desk.set(d, i, c), model.set(d, i, c));
                break;
            }
            case 1:
                Check.due("get(" + d + ", " + k + ")", desk.get(d, k), model.get(d, k));
                break;
            case 2:
                Check.due("degree(" + d + ")", desk.degree(d), model.degree(d));
                break;
            case 3: {
                int x = mostly(-1000, 1000);
                Check.due("at(" + d + ", " + x + ")", desk.at(d, x), model.at(d, x));
                break;
            }
            case 4:
            case 5:
            case 6:
            case 7: {
                int op = mostly(0, 5);
                String name = "apply(" + op + ", " + d + ", " + a + ", " + b + ")";
                Check.due(name, desk.apply(op, d, a, b), model.apply(op, d, a, b));
                break;
            }
            case 8:
                Check.due("derive(" + d + ", " + a + ")", desk.derive(d, a), model.derive(d, a));
                break;
            case 9: {
                int t = mostly(-3, 3);
                String name = "shift(" + d + ", " + a + ", " + t + ")";
                Check.due(name, desk.shift(d, a, t), model.shift(d, a, t));
                break;
            }
            case 10:
                Check.due("content(" + d + ")", desk.content(d), model.content(d));
                break;
            case 11:
                Check.due("factors(" + d + ")", desk.factors(d), model.factors(d));
                break;
            case 12: {
                String name = "factor(" + d + ", " + a + ", " + k + ")";
                Check.due(name, desk.factor(d, a, k), model.factor(d, a, k));
                break;
            }
            case 13:
                Check.due("simple(" + d + ", " + a + ")", desk.simple(d, a), model.simple(d, a));
                break;
            case 14:
                Check.due("factorsModulo(" + d + ", " + p + ")", desk.factorsModulo(d, p), model.factorsModulo(d, p));
                break;
            case 15: {
                String name = "degreeModulo(" + d + ", " + p + ", " + k + ")";
                Check.due(name, desk.degreeModulo(d, p, k), model.degreeModulo(d, p, k));
                break;
            }
            default:
                Check.due("rootsModulo(" + d + ", " + p + ")", desk.rootsModulo(d, p), model.rootsModulo(d, p));
                break;
        }
    }

    private static void lookAtAll(int run) {
        for (int r = 0; r < 4; r++) {
            for (int i = 0; i < 6; i++) {
                Check.due("run " + run + ": get(" + r + ", " + i + ")", desk.get(r, i), model.get(r, i));
            }
        }
    }

    public static void main(String[] args) {
        for (int run = 0; run < RUNS; run++) {
            desk = new FactorDesk();
            model = new Reference();
            for (int r = 0; r < 4; r++) {
                int kind = below(8);
                put(r, kind == 0 ? some(5, 20) : kind == 1 ? some(between(0, 3), 3) : kind == 2 ? new int[0] : composed());
            }
            for (int n = 0; n < CALLS; n++) {
                call();
                lookAtAll(run);
            }
        }
        Check.finish();
    }
}
