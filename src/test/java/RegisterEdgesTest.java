/** The edges that promises 1 to 5 name, a method for each sentence. */
public final class RegisterEdgesTest {
    private static final int[][] MARKS = {
        {1, -2, 3, -4, 5, -6}, {7, -8, 9, -10, 11, -12}, {13, -14, 15, -16, 17, -18}, {19, -20, 20, -19, 18, -17}
    };
    private static final int[] OUTSIDE_REGISTERS = {Integer.MIN_VALUE, -4, -1, 4, 5, 715827883, Integer.MAX_VALUE};

    private static void allRegistersHoldZero() {
        Check.sentence("1: All registers hold zero.");
        FactorDesk used = Check.desk(MARKS);
        FactorDesk desk = new FactorDesk();
        for (int r = 0; r < 4; r++) {
            Check.holds("new", desk, r);
            Check.due("new: degree(" + r + ")", desk.degree(r), -1);
            Check.due("the one used before: degree(" + r + ")", used.degree(r), 5);
        }
    }

    private static int setting(FactorDesk desk, int r, int i, int c) {
        return desk.set(r, i, c) ? 1 : 0;
    }

    private static void refusedSet(int r, int i, int c) {
        Check.unchanged("set(" + r + ", " + i + ", " + c + ")", MARKS, desk -> setting(desk, r, i, c), 0);
    }

    private static void takenSet(int r, int i, int c) {
        int[] result = MARKS[r].clone();
        result[i] = c;
        Check.made("set(" + r + ", " + i + ", " + c + ")", MARKS, desk -> setting(desk, r, i, c), 1, r, result);
    }

    private static void setRegister() {
        Check.sentence("2: r outside 0..3: refused, answers false.");
        for (int r : OUTSIDE_REGISTERS) {
            refusedSet(r, 0, 0);
            refusedSet(r, 5, 20);
        }
        takenSet(0, 0, 0);
        takenSet(3, 0, 0);
    }

    private static void setPower() {
        Check.sentence("2: i outside 0..5: refused, answers false.");
        for (int i : new int[] {Integer.MIN_VALUE, -6, -1, 6, 7, 12, Integer.MAX_VALUE}) {
            for (int r = 0; r < 4; r++) {
                refusedSet(r, i, 0);
                refusedSet(r, i, 20);
            }
        }
        for (int r = 0; r < 4; r++) {
            takenSet(r, 0, 2);
            takenSet(r, 5, 2);
        }
    }

    private static void setCoefficient() {
        Check.sentence("2: c outside -20..20: refused, answers false.");
        for (int c : new int[] {Integer.MIN_VALUE, -1000, -256, -21, 21, 256, 1000, Integer.MAX_VALUE}) {
            refusedSet(0, 0, c);
            refusedSet(3, 5, c);
        }
        for (int c = -20; c <= 20; c++) {
            takenSet(0, 0, c);
            takenSet(3, 5, c);
        }
    }

    private static void zeroAboveTheDegree() {
        Check.sentence("3: Coefficient i of register r (0 above the degree)");
        FactorDesk desk = Check.desk(Check.of(), Check.of(-3), Check.of(0, 0, 8), Check.of(0, 0, 0, 0, 0, -20));
        for (int i = 0; i < 6; i++) {
            Check.due("get(0, " + i + ")", desk.get(0, i), 0);
            Check.due("get(1, " + i + ")", desk.get(1, i), i == 0 ? -3 : 0);
            Check.due("get(2, " + i + ")", desk.get(2, i), i == 2 ? 8 : 0);
            Check.due("get(3, " + i + ")", desk.get(3, i), i == 5 ? -20 : 0);
        }
        // A lower degree than before leaves nothing above it.
        Check.due("apply", desk.apply(FactorDesk.MUL, 3, 1, 1), 0);
        Check.holds("after a result of degree 0", desk, 3, 9);
    }

    private static void getOutside() {
        Check.sentence("3: BAD for r outside 0..3 or i outside 0..5");
        for (int r : OUTSIDE_REGISTERS) {
            Check.unchanged("get(" + r + ", 0)", MARKS, desk -> desk.get(r, 0), FactorDesk.BAD);
            Check.unchanged("get(" + r + ", 5)", MARKS, desk -> desk.get(r, 5), FactorDesk.BAD);
        }
        for (int i : new int[] {Integer.MIN_VALUE, -6, -1, 6, 7, Integer.MAX_VALUE}) {
            for (int r = 0; r < 4; r++) {
                int register = r;
                Check.unchanged("get(" + r + ", " + i + ")", MARKS, desk -> desk.get(register, i), FactorDesk.BAD);
            }
        }
        FactorDesk desk = Check.desk(MARKS);
        for (int r = 0; r < 4; r += 3) {
            Check.due("get(" + r + ", 0)", desk.get(r, 0), MARKS[r][0]);
            Check.due("get(" + r + ", 5)", desk.get(r, 5), MARKS[r][5]);
        }
    }

    private static void degreeOutside() {
        Check.sentence("4: BAD for r outside 0..3");
        for (int r : OUTSIDE_REGISTERS) {
            Check.unchanged("degree(" + r + ")", MARKS, desk -> desk.degree(r), FactorDesk.BAD);
        }
        FactorDesk desk = Check.desk(Check.of(1, 1), Check.of(), Check.of(), Check.of(1, 1, 1));
        Check.due("degree(0)", desk.degree(0), 1);
        Check.due("degree(3)", desk.degree(3), 2);
    }

    private static void degreeOfZero() {
        Check.sentence("Terms: The zero polynomial has the degree -1.");
        FactorDesk desk = Check.desk(Check.of(1), Check.of(-20), Check.of(0, 1), Check.of(0, 0, 0, 0, 0, 1));
        Check.due("degree of 1", desk.degree(0), 0);
        Check.due("degree of -20", desk.degree(1), 0);
        Check.due("degree of x", desk.degree(2), 1);
        Check.due("degree of x^5", desk.degree(3), 5);
        desk.set(0, 0, 0);
        desk.set(3, 5, 0);
        Check.due("degree of zero", desk.degree(0), -1);
        Check.due("degree of zero, x^5 before", desk.degree(3), -1);
        Check.due("a difference of zero", desk.apply(FactorDesk.SUB, 0, 2, 2), -1);
        Check.due("the derivative of -20", desk.derive(0, 1), -1);
        Check.due("zero shifted", desk.shift(1, 3, 3), -1);
        Check.due("zero made simple", desk.simple(2, 3), -1);
        for (int r = 0; r < 4; r++) {
            Check.due("degree(" + r + ")", desk.degree(r), -1);
        }
    }

    private static void exactLong() {
        Check.sentence("5: The value of register r at x, as an exact long");
        int[] alternating = {-20, 20, -20, 20, -20, 20};
        FactorDesk desk = Check.desk(Check.of(20, 20, 20, 20, 20, 20), alternating, Check.of(0, 0, 0, 0, 0, -20), Check.of());
        Check.due("at(0, 1000)", desk.at(0, 1000), 20020020020020020L);
        Check.due("at(0, -1000)", desk.at(0, -1000), -19980019980019980L);
        Check.due("at(1, 1000)", desk.at(1, 1000), 19980019980019980L);
        Check.due("at(1, -1000)", desk.at(1, -1000), -20020020020020020L);
        Check.due("at(1, 999)", desk.at(1, 999), 19880299600299880L);
        Check.due("at(2, 1000)", desk.at(2, 1000), -20000000000000000L);
        Check.due("at(2, -1000)", desk.at(2, -1000), 20000000000000000L);
        Check.due("at(2, 46)", desk.at(2, 46), -4119259520L);
        Check.due("at(0, 0)", desk.at(0, 0), 20);
        Check.due("at(1, 1)", desk.at(1, 1), 0);
        Check.due("at(1, -1)", desk.at(1, -1), -120);
        Check.due("at(3, 1000)", desk.at(3, 1000), 0);
    }

    private static void atOutside() {
        Check.sentence("5: 0 for r outside 0..3 or x outside -1000..1000");
        FactorDesk desk = Check.desk(MARKS);
        for (int r : OUTSIDE_REGISTERS) {
            for (int x : new int[] {-1000, 0, 1, 1000}) {
                Check.due("at(" + r + ", " + x + ")", desk.at(r, x), 0);
            }
        }
        for (int x : new int[] {Integer.MIN_VALUE, -1002, -1001, 1001, 1002, 65536, Integer.MAX_VALUE}) {
            for (int r = 0; r < 4; r++) {
                Check.due("at(" + r + ", " + x + ")", desk.at(r, x), 0);
            }
        }
        FactorDesk lines = Check.desk(Check.of(1, 1), Check.of(), Check.of(), Check.of(0, -1));
        Check.due("at(0, -1000)", lines.at(0, -1000), -999);
        Check.due("at(0, 1000)", lines.at(0, 1000), 1001);
        Check.due("at(3, -1000)", lines.at(3, -1000), 1000);
        Check.due("at(3, 1000)", lines.at(3, 1000), -1000);
    }

    public static void main(String[] args) {
        allRegistersHoldZero();
        setRegister();
        setPower();
        setCoefficient();
        zeroAboveTheDegree();
        getOutside();
        degreeOutside();
        degreeOfZero();
        exactLong();
        atOutside();
        Check.finish();
    }
}
