/** Promises 7 and 8: derive, shift. */
public final class ChangeTest {
    private static final int[] MARK = {9, -8, 7, -6, 5, -4};

    private static void derived(int[] a, int answer, int... result) {
        FactorDesk desk = new FactorDesk();
        Check.put(desk, 1, a);
        Check.put(desk, 2, MARK);
        Check.due("derive(2, 1)", desk.derive(2, 1), answer);
        Check.holds("derive(2, 1)", desk, 1, a);
        Check.holds("derive(2, 1)", desk, 2, answer < -1 ? MARK : result);
        Check.due("derive(1, 1)", desk.derive(1, 1), answer);
        Check.holds("derive(1, 1)", desk, 1, answer < -1 ? a : result);
    }

    private static void shifted(int t, int[] a, int answer, int... result) {
        FactorDesk desk = new FactorDesk();
        Check.put(desk, 1, a);
        Check.put(desk, 2, MARK);
        Check.due("shift(2, 1, " + t + ")", desk.shift(2, 1, t), answer);
        Check.holds("shift(2, 1, " + t + ")", desk, 1, a);
        Check.holds("shift(2, 1, " + t + ")", desk, 2, answer < -1 ? MARK : result);
        Check.due("shift(1, 1, " + t + ")", desk.shift(1, 1, t), answer);
        Check.holds("shift(1, 1, " + t + ")", desk, 1, answer < -1 ? a : result);
    }

    private static int[] of(int... c) {
        return c;
    }

    private static void derivatives() {
        derived(of(), -1);
        derived(of(20), -1);
        derived(of(3, -20), 0, -20);
        derived(of(1, 2, 3, 4, 5, 4), 4, 2, 6, 12, 20, 20);
        derived(of(0, 0, 0, 0, 0, -4), 4, 0, 0, 0, 0, -20);
        derived(of(0, 0, 0, 0, 0, 5), FactorDesk.FULL);
        derived(of(0, 0, -11), FactorDesk.FULL);
        derived(of(0, 0, 10), 1, 0, 20);
        derived(of(0, 0, 0, 7, 1), FactorDesk.FULL);
    }

    private static void shifts() {
        shifted(1, of(), -1);
        shifted(-3, of(-20), 0, -20);
        shifted(0, of(20, -20, 20, -20, 20, -20), 5, 20, -20, 20, -20, 20, -20);
        shifted(1, of(0, 1), 1, 1, 1);
        shifted(-1, of(0, 1), 1, -1, 1);
        shifted(1, of(0, 0, 0, 0, 0, 1), 5, 1, 5, 10, 10, 5, 1);
        shifted(-1, of(0, 0, 0, 0, 0, 1), 5, -1, 5, -10, 10, -5, 1);
        shifted(3, of(1, 0, 1), 2, 10, 6, 1);
        shifted(-3, of(9, 6, 1), 2, 0, 0, 1);
        shifted(2, of(0, 0, 5), 2, 20, 20, 5);
        shifted(2, of(1, 0, 5), FactorDesk.FULL);
        shifted(-2, of(1, 0, -5), 2, -19, 20, -5);
        shifted(3, of(20, 20, 20, 20, 20, 20), FactorDesk.FULL);
        shifted(-2, of(0, 0, 0, 0, 1), FactorDesk.FULL);
    }

    private static void badNumbers() {
        FactorDesk desk = new FactorDesk();
        Check.put(desk, 0, 0, 0, 0, 0, 0, 20);
        for (int r : new int[] {-1, 4, Integer.MIN_VALUE, Integer.MAX_VALUE}) {
            Check.due("derive(" + r + ", 0)", desk.derive(r, 0), FactorDesk.BAD);
            Check.due("derive(0, " + r + ")", desk.derive(0, r), FactorDesk.BAD);
            Check.due("shift(" + r + ", 0, 1)", desk.shift(r, 0, 1), FactorDesk.BAD);
            Check.due("shift(0, " + r + ", 1)", desk.shift(0, r, 1), FactorDesk.BAD);
        }
        for (int t : new int[] {-4, 4, Integer.MIN_VALUE, Integer.MAX_VALUE}) {
            Check.due("shift(1, 0, " + t + ")", desk.shift(1, 0, t), FactorDesk.BAD);
            Check.due("shift(2, 1, " + t + ")", desk.shift(2, 1, t), FactorDesk.BAD);
        }
        Check.holds("after BAD", desk, 0, 0, 0, 0, 0, 0, 20);
        Check.holds("after BAD", desk, 1);
    }

    /** What an earlier call left behind has no part in a later one. */
    private static void oneAfterAnother() {
        FactorDesk desk = new FactorDesk();
        Check.put(desk, 0, 0, 0, 0, 0, 0, 1);
        Check.due("shift(1, 0, 1)", desk.shift(1, 0, 1), 5);
        Check.due("derive(2, 0)", desk.derive(2, 0), 4);
        Check.holds("derive(2, 0)", desk, 2, 0, 0, 0, 0, 5);
    }

    public static void main(String[] args) {
        derivatives();
        shifts();
        badNumbers();
        oneAfterAnother();
        Check.finish();
    }
}
