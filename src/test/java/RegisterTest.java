/** Promises 1 to 5: a new object, set, get, degree, at. */
public final class RegisterTest {
    private static final int[] OUTSIDE_REGISTERS = {-1, 4, 5, Integer.MIN_VALUE, Integer.MAX_VALUE, 715827883};
    private static final int[] OUTSIDE_POWERS = {-1, 6, 7, -6, Integer.MIN_VALUE, Integer.MAX_VALUE};

    private static void newObject() {
        FactorDesk desk = new FactorDesk();
        for (int r = 0; r < 4; r++) {
            Check.holds("new", desk, r);
            Check.due("new: degree(" + r + ")", desk.degree(r), -1);
            Check.due("new: at(" + r + ", 7)", desk.at(r, 7), 0);
            Check.due("new: content(" + r + ")", desk.content(r), 0);
        }
        desk.set(0, 0, 5);
        Check.holds("another new object", new FactorDesk(), 0);
    }

    private static void eachCoefficientForItself() {
        FactorDesk desk = new FactorDesk();
        for (int r = 0; r < 4; r++) {
            for (int i = 0; i < 6; i++) {
                Check.due("set", desk.set(r, i, 6 * r + i - 11), true);
            }
        }
        for (int r = 0; r < 4; r++) {
            for (int i = 0; i < 6; i++) {
                Check.due("get(" + r + ", " + i + ")", desk.get(r, i), 6 * r + i - 11);
            }
        }
    }

    private static void edgesOfSet() {
        FactorDesk desk = new FactorDesk();
        for (int c = -20; c <= 20; c++) {
            Check.due("set(3, 5, " + c + ")", desk.set(3, 5, c), true);
            Check.due("get(3, 5)", desk.get(3, 5), c);
        }
        for (int c : new int[] {-21, 21, 22, Integer.MIN_VALUE, Integer.MAX_VALUE}) {
            Check.due("set(3, 5, " + c + ")", desk.set(3, 5, c), false);
        }
        for (int r : OUTSIDE_REGISTERS) {
            Check.due("set(" + r + ", 0, 1)", desk.set(r, 0, 1), false);
        }
        for (int i : OUTSIDE_POWERS) {
            Check.due("set(1, " + i + ", 1)", desk.set(1, i, 1), false);
        }
        Check.holds("after refused sets", desk, 0);
        Check.holds("after refused sets", desk, 1);
        Check.holds("after refused sets", desk, 2);
        Check.holds("after refused sets", desk, 3, 0, 0, 0, 0, 0, 20);
    }

    private static void edgesOfGet() {
        FactorDesk desk = new FactorDesk();
        Check.put(desk, 0, 1, 2, 3);
        Check.due("get above the degree", desk.get(0, 5), 0);
        for (int r : OUTSIDE_REGISTERS) {
            Check.due("get(" + r + ", 0)", desk.get(r, 0), FactorDesk.BAD);
        }
        for (int i : OUTSIDE_POWERS) {
            Check.due("get(0, " + i + ")", desk.get(0, i), FactorDesk.BAD);
        }
    }

    private static void degrees() {
        FactorDesk desk = new FactorDesk();
        for (int i = 0; i < 6; i++) {
            desk.set(2, i, i % 2 == 0 ? -1 : 1);
            Check.due("degree(2) with power " + i, desk.degree(2), i);
        }
        for (int i = 5; i >= 0; i--) {
            desk.set(2, i, 0);
            Check.due("degree(2) without power " + i, desk.degree(2), i - 1);
        }
        for (int r : OUTSIDE_REGISTERS) {
            Check.due("degree(" + r + ")", desk.degree(r), FactorDesk.BAD);
        }
    }

    private static void values() {
        FactorDesk desk = new FactorDesk();
        Check.put(desk, 1, 7, -3, 0, 2, 0, -1);
        Check.due("at(1, 0)", desk.at(1, 0), 7);
        Check.due("at(1, 1)", desk.at(1, 1), 5);
        Check.due("at(1, 2)", desk.at(1, 2), 7 - 6 + 16 - 32);
        Check.due("at(1, -2)", desk.at(1, -2), 7 + 6 - 16 + 32);
        Check.put(desk, 2, 20, 20, 20, 20, 20, 20);
        Check.due("at(2, 1000)", desk.at(2, 1000), 20020020020020020L);
        Check.due("at(2, -1000)", desk.at(2, -1000), -19980019980019980L);
        for (int x : new int[] {1001, -1001, Integer.MIN_VALUE, Integer.MAX_VALUE}) {
            Check.due("at(2, " + x + ")", desk.at(2, x), 0);
        }
        for (int r : OUTSIDE_REGISTERS) {
            Check.due("at(" + r + ", 1)", desk.at(r, 1), 0);
        }
    }

    public static void main(String[] args) {
        newObject();
        eachCoefficientForItself();
        edgesOfSet();
        edgesOfGet();
        degrees();
        values();
        Check.finish();
    }
}
