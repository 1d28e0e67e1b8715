/** The edges that promise 16 and "What it is" name, a method for each sentence. */
public final class LimitsEdgesTest {
    private static final int BAD = FactorDesk.BAD;
    private static final int FULL = FactorDesk.FULL;
    private static final int NONE = FactorDesk.NONE;
    // (x - 1)^2 (x^3 + 22x^2 + 23x + 4): its derivative, its shifts, its factor 2 and its simple one don't fit.
    private static final int[] LARGE = {4, 15, -20, -20, 20, 1};
    private static final int[][] HELD = {{9, -8, 7, -6, 5, -4}, LARGE, {}, {-1, 0, 0, 0, 1}};
    private static final int[] OUTSIDE = {Integer.MIN_VALUE, -1, 4, Integer.MAX_VALUE};
    private static final int[] EDGES = {
        Integer.MIN_VALUE, -1001, -1000, -21, -4, -1, 0, 3, 4, 5, 6, 7, 20, 1000, 1 << 30, Integer.MAX_VALUE
    };

    private static void badFirst() {
        Check.sentence("16: derive, shift, factor, simple: BAD is tested first");
        for (int r : OUTSIDE) {
            Check.unchanged("derive, BAD and FULL", HELD, desk -> desk.derive(r, 1), BAD);
            Check.unchanged("shift, BAD and FULL", HELD, desk -> desk.shift(r, 1, 3), BAD);
            Check.unchanged("factor, BAD and FULL", HELD, desk -> desk.factor(r, 1, 2), BAD);
            Check.unchanged("factor, BAD and NONE", HELD, desk -> desk.factor(r, 1, 3), BAD);
            Check.unchanged("factor, BAD and NONE below 0", HELD, desk -> desk.factor(r, 1, -1), BAD);
            Check.unchanged("factor of zero, BAD and NONE", HELD, desk -> desk.factor(r, 2, 0), BAD);
            Check.unchanged("factor, r BAD and NONE", HELD, desk -> desk.factor(2, r, -1), BAD);
            Check.unchanged("simple, BAD and FULL", HELD, desk -> desk.simple(r, 1), BAD);
        }
        Check.unchanged("shift by 4, BAD and FULL", HELD, desk -> desk.shift(0, 1, 4), BAD);
        Check.unchanged("shift by -4, BAD and FULL", HELD, desk -> desk.shift(0, 1, -4), BAD);
    }

    private static void noneThenFull() {
        Check.sentence("16: then NONE, then FULL");
        for (int k : new int[] {Integer.MIN_VALUE, -1, 3, 4, Integer.MAX_VALUE}) {
            Check.unchanged("factor(0, 1, " + k + ")", HELD, desk -> desk.factor(0, 1, k), NONE);
        }
        Check.unchanged("factor(0, 1, 2)", HELD, desk -> desk.factor(0, 1, 2), FULL);
        Check.made("factor(0, 1, 1)", HELD, desk -> desk.factor(0, 1, 1), 1, 0, -1, 1);
    }

    private static void noRegisterChanges() {
        Check.sentence("16: with any of them no register changes");
        for (int n = 0; n < 4; n++) {
            int r = n;
            Check.unchanged("derive(" + r + ", 1)", HELD, desk -> desk.derive(r, 1), FULL);
            Check.unchanged("shift(" + r + ", 1, 1)", HELD, desk -> desk.shift(r, 1, 1), FULL);
            Check.unchanged("factor(" + r + ", 1, 2)", HELD, desk -> desk.factor(r, 1, 2), FULL);
            Check.unchanged("simple(" + r + ", 1)", HELD, desk -> desk.simple(r, 1), FULL);
            Check.unchanged("factor(" + r + ", 1, 3)", HELD, desk -> desk.factor(r, 1, 3), NONE);
            Check.unchanged("factor(" + r + ", 2, 0)", HELD, desk -> desk.factor(r, 2, 0), NONE);
            Check.unchanged("derive(" + r + ", 4)", HELD, desk -> desk.derive(r, 4), BAD);
            Check.unchanged("derive(-1, " + r + ")", HELD, desk -> desk.derive(-1, r), BAD);
            Check.unchanged("shift(" + r + ", 3, 4)", HELD, desk -> desk.shift(r, 3, 4), BAD);
            Check.unchanged("factor(" + r + ", 4, 0)", HELD, desk -> desk.factor(r, 4, 0), BAD);
            Check.unchanged("factor(4, " + r + ", 0)", HELD, desk -> desk.factor(4, r, 0), BAD);
            Check.unchanged("simple(" + r + ", -1)", HELD, desk -> desk.simple(r, -1), BAD);
            Check.unchanged("simple(4, " + r + ")", HELD, desk -> desk.simple(4, r), BAD);
        }
    }

    private static void refusedChangesNothing() {
        Check.sentence("16: a call that is refused (by a code below 0 that is named, or by false) changes nothing");
        for (int n = 0; n < 4; n++) {
            int r = n;
            Check.unchanged("set(" + r + ", 5, 21)", HELD, desk -> desk.set(r, 5, 21) ? 1 : 0, 0);
            Check.unchanged("set(" + r + ", 6, 1)", HELD, desk -> desk.set(r, 6, 1) ? 1 : 0, 0);
            Check.unchanged("get(" + r + ", -1)", HELD, desk -> desk.get(r, -1), BAD);
            Check.unchanged("apply(ADD, " + r + ", 1, 1)", HELD, desk -> desk.apply(FactorDesk.ADD, r, 1, 1), FULL);
            Check.unchanged("apply(MUL, " + r + ", 1, 3)", HELD, desk -> desk.apply(FactorDesk.MUL, r, 1, 3), FULL);
            Check.unchanged("apply(QUOTIENT, " + r + ", 1, 3)", HELD, desk -> desk.apply(FactorDesk.QUOTIENT, r, 1, 3), NONE);
            Check.unchanged("apply(REST, " + r + ", 1, 0)", HELD, desk -> desk.apply(FactorDesk.REST, r, 1, 0), NONE);
            Check.unchanged("apply(6, " + r + ", 1, 0)", HELD, desk -> desk.apply(6, r, 1, 0), BAD);
            Check.unchanged("factorsModulo(" + r + ", 4)", HELD, desk -> desk.factorsModulo(r, 4), BAD);
            Check.unchanged("degreeModulo(" + r + ", 3, 9)", HELD, desk -> desk.degreeModulo(r, 3, 9), NONE);
            Check.unchanged("rootsModulo(" + r + ", 4)", HELD, desk -> desk.rootsModulo(r, 4), BAD);
        }
        Check.unchanged("factorsModulo(2, 3)", HELD, desk -> desk.factorsModulo(2, 3), NONE);
        for (int r : OUTSIDE) {
            Check.unchanged("set(" + r + ", 0, 1)", HELD, desk -> desk.set(r, 0, 1) ? 1 : 0, 0);
            Check.unchanged("get(" + r + ", 0)", HELD, desk -> desk.get(r, 0), BAD);
            Check.unchanged("degree(" + r + ")", HELD, desk -> desk.degree(r), BAD);
            Check.unchanged("at(" + r + ", 1)", HELD, desk -> (int) desk.at(r, 1), 0);
            Check.unchanged("content(" + r + ")", HELD, desk -> desk.content(r), BAD);
            Check.unchanged("factors(" + r + ")", HELD, desk -> desk.factors(r), BAD);
        }
    }

    /** What the next call answers is the same, whichever call was refused before it. */
    private static void refusedLeavesNoTrace() {
        Check.sentence("16: a call that is refused changes nothing: nor what later calls answer");
        FactorDesk desk = Check.desk(HELD);
        for (int n = 0; n < 11; n++) {
            refuse(desk, n);
            Check.due("factors(3) after " + n, desk.factors(3), 3);
            refuse(desk, n);
            Check.due("factor(2, 3, 2) after " + n, desk.factor(2, 3, 2), 2);
            refuse(desk, n);
            Check.due("degreeModulo(3, 5, 3) after " + n, desk.degreeModulo(3, 5, 3), 1);
            refuse(desk, n);
            Check.due("simple(2, 3) after " + n, desk.simple(2, 3), 4);
            refuse(desk, n);
            Check.due("apply(GCD, 2, 3, 1) after " + n, desk.apply(FactorDesk.GCD, 2, 3, 1), 1);
            Check.holds("after " + n, desk, 2, -1, 1);
        }
    }

    private static void refuse(FactorDesk desk, int n) {
        switch (n) {
            case 0 -> Check.due("derive(2, 1)", desk.derive(2, 1), FULL);
            case 1 -> Check.due("shift(2, 1, -1)", desk.shift(2, 1, -1), FULL);
            case 2 -> Check.due("factor(2, 1, 2)", desk.factor(2, 1, 2), FULL);
            case 3 -> Check.due("factor(2, 1, 3)", desk.factor(2, 1, 3), NONE);
            case 4 -> Check.due("simple(2, 1)", desk.simple(2, 1), FULL);
            case 5 -> Check.due("degreeModulo(1, 7, 9)", desk.degreeModulo(1, 7, 9), NONE);
            case 6 -> Check.due("apply(ADD, 2, 1, 1)", desk.apply(FactorDesk.ADD, 2, 1, 1), FULL);
            case 7 -> Check.due("apply(QUOTIENT, 2, 1, 3)", desk.apply(FactorDesk.QUOTIENT, 2, 1, 3), NONE);
            case 8 -> Check.due("apply(REST, 2, 1, 0)", desk.apply(FactorDesk.REST, 2, 1, 0), NONE);
            case 9 -> Check.due("factors(4)", desk.factors(4), BAD);
            default -> Check.due("set(2, 0, 21)", desk.set(2, 0, 21), false);
        }
    }

    private static void allCallsOfAnObject() {
        Check.sentence("What it is: An object is used for at most 512 calls");
        FactorDesk desk = Check.desk(HELD);
        for (int n = 24; n < 512; n += 4) {
            Check.due("call " + n, desk.apply(FactorDesk.GCD, 2, 3, 1), 1);
            Check.due("call " + (n + 1), desk.factor(2, 3, 2), 2);
            Check.due("call " + (n + 2), desk.factorsModulo(3, 5), 4);
            Check.due("call " + (n + 3), desk.get(2, 0), 1);
        }
    }

    /** Edges in every place: no call throws, and each is answered as the reference answers it. */
    private static void edgesInEveryPlace() {
        Check.sentence("LANGUAGE 7: No call may ever throw, for any arguments in any state");
        for (int[][] held : new int[][][] {{}, HELD, {{0, 1}, {20, 20, 20, 20, 20, 20}, {-1}, {-20, 20, -20, 20, -20, 20}}}) {
            for (int a : EDGES) {
                for (int b : EDGES) {
                    edgesOfTwo(Check.desk(held), modelOf(held), a, b);
                    for (int c : EDGES) {
                        edgesOfThree(Check.desk(held), modelOf(held), a, b, c);
                    }
                }
            }
        }
    }

    private static Reference modelOf(int[][] held) {
        Reference model = new Reference();
        for (int r = 0; r < held.length; r++) {
            for (int i = 0; i < held[r].length; i++) {
                model.set(r, i, held[r][i]);
            }
        }
        return model;
    }

    private static void edgesOfTwo(FactorDesk desk, Reference model, int a, int b) {
        String with = "(" + a + ", " + b + ")";
        Check.due("degree" + with, desk.degree(a), model.degree(a));
        Check.due("content" + with, desk.content(a), model.content(a));
        Check.due("factors" + with, desk.factors(a), model.factors(a));
        Check.due("get" + with, desk.get(a, b), model.get(a, b));
        Check.due("at" + with, desk.at(a, b), model.at(a, b));
        Check.due("factorsModulo" + with, desk.factorsModulo(a, b), model.factorsModulo(a, b));
        Check.due("rootsModulo" + with, desk.rootsModulo(a, b), model.rootsModulo(a, b));
        Check.due("derive" + with, desk.derive(a, b), model.derive(a, b));
        Check.due("simple" + with, desk.simple(a, b), model.simple(a, b));
    }

    private static void edgesOfThree(FactorDesk desk, Reference model, int a, int b, int c) {
        String with = "(" + a + ", " + b + ", " + c + ")";
        Check.due("degreeModulo" + with, desk.degreeModulo(a, b, c), model.degreeModulo(a, b, c));
        Check.due("shift" + with, desk.shift(a, b, c), model.shift(a, b, c));
        Check.due("factor" + with, desk.factor(a, b, c), model.factor(a, b, c));
        Check.due("set" + with, desk.set(a, b, c), model.set(a, b, c));
        for (int op : EDGES) {
            Check.due("apply " + op + with, desk.apply(op, a, b, c), model.apply(op, a, b, c));
        }
    }

    public static void main(String[] args) {
        badFirst();
        noneThenFull();
        noRegisterChanges();
        refusedChangesNothing();
        refusedLeavesNoTrace();
        allCallsOfAnObject();
        edgesInEveryPlace();
        Check.finish();
    }
}
