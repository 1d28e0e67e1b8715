/** Promise 16: the order of refusals, and that a refused call changes no register. */
public final class LimitsTest {
    private static final int[] LARGE = {4, 15, -20, -20, 20, 1};
    private static final int[] MARK = {9, -8, 7, -6, 5, -4};

    private static FactorDesk filled() {
        FactorDesk desk = new FactorDesk();
        Check.put(desk, 0, LARGE);
        Check.put(desk, 2, MARK);
        return desk;
    }

    private static void unchanged(String call, FactorDesk desk) {
        Check.holds(call, desk, 0, LARGE);
        Check.holds(call, desk, 1);
        Check.holds(call, desk, 2, MARK);
        Check.holds(call, desk, 3);
    }

    private static void refused(String call, FactorDesk desk, int got, int want) {
        Check.due(call, got, want);
        unchanged(call, desk);
    }

    private static void badFirst() {
        FactorDesk desk = filled();
        refused("derive, BAD and FULL", desk, desk.derive(4, 0), FactorDesk.BAD);
        refused("shift, BAD and FULL", desk, desk.shift(-1, 0, 3), FactorDesk.BAD);
        refused("factor, BAD and NONE", desk, desk.factor(4, 0, 9), FactorDesk.BAD);
        refused("factor, BAD and FULL", desk, desk.factor(4, 0, 2), FactorDesk.BAD);
        refused("simple, BAD and FULL", desk, desk.simple(4, 0), FactorDesk.BAD);
        refused("apply, BAD and FULL", desk, desk.apply(FactorDesk.MUL, 4, 0, 0), FactorDesk.BAD);
        refused("apply, BAD and NONE", desk, desk.apply(FactorDesk.QUOTIENT, 4, 0, 1), FactorDesk.BAD);
        refused("factorsModulo, BAD and NONE", desk, desk.factorsModulo(1, 4), FactorDesk.BAD);
        refused("degreeModulo, BAD and NONE", desk, desk.degreeModulo(1, 4, 9), FactorDesk.BAD);
    }

    private static void noneAndFull() {
        FactorDesk desk = filled();
        refused("factor, NONE", desk, desk.factor(2, 0, 3), FactorDesk.NONE);
        refused("factor, FULL", desk, desk.factor(2, 0, 2), FactorDesk.FULL);
        refused("factor of itself, FULL", desk, desk.factor(0, 0, 2), FactorDesk.FULL);
        refused("simple, FULL", desk, desk.simple(2, 0), FactorDesk.FULL);
        refused("simple of itself, FULL", desk, desk.simple(0, 0), FactorDesk.FULL);
        refused("derive, FULL", desk, desk.derive(2, 0), FactorDesk.FULL);
        refused("shift, FULL", desk, desk.shift(2, 0, 3), FactorDesk.FULL);
        refused("apply MUL, FULL", desk, desk.apply(FactorDesk.MUL, 2, 0, 2), FactorDesk.FULL);
        refused("apply ADD, FULL", desk, desk.apply(FactorDesk.ADD, 2, 0, 0), FactorDesk.FULL);
        refused("apply REST, NONE", desk, desk.apply(FactorDesk.REST, 2, 0, 2), FactorDesk.NONE);
        refused("apply QUOTIENT, NONE", desk, desk.apply(FactorDesk.QUOTIENT, 2, 0, 1), FactorDesk.NONE);
    }

    /** The calls that only ask change nothing either. */
    private static void questions() {
        FactorDesk desk = filled();
        for (int r = -1; r <= 4; r++) {
            desk.degree(r);
            desk.at(r, 3);
            desk.content(r);
            desk.factors(r);
            desk.factorsModulo(r, 3);
            desk.degreeModulo(r, 3, 0);
            desk.rootsModulo(r, 3);
            unchanged("questions to " + r, desk);
        }
    }

    /** An answer depends on the registers alone, not on what was asked before. */
    private static void noMemory() {
        FactorDesk desk = filled();
        Check.put(desk, 3, -1, 0, 0, 0, 1);
        Check.due("factors(3)", desk.factors(3), 3);
        Check.due("factorsModulo(3, 5)", desk.factorsModulo(3, 5), 4);
        Check.due("factor(1, 3, 3)", desk.factor(1, 3, 3), FactorDesk.NONE);
        Check.due("degreeModulo(3, 5, 3)", desk.degreeModulo(3, 5, 3), 1);
        Check.due("factors(1)", desk.factors(1), 0);
        Check.due("factor(1, 1, 0)", desk.factor(1, 1, 0), FactorDesk.NONE);
        Check.due("degreeModulo(1, 5, 0)", desk.degreeModulo(1, 5, 0), FactorDesk.NONE);
        Check.due("factors(3)", desk.factors(3), 3);
    }

    public static void main(String[] args) {
        badFirst();
        noneAndFull();
        questions();
        noMemory();
        Check.finish();
    }
}
