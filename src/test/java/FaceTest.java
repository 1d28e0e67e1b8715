import java.lang.reflect.Constructor;
import java.lang.reflect.Field;
import java.lang.reflect.Method;
import java.lang.reflect.Modifier;
import java.util.Arrays;
import java.util.TreeSet;

/** The public face: every constant, the constructor and every method, and nothing else visible. */
public final class FaceTest {
    private static final String[] METHODS = {
        "boolean set(int, int, int)", "int get(int, int)", "int degree(int)", "long at(int, int)",
        "int apply(int, int, int, int)", "int derive(int, int)", "int shift(int, int, int)",
        "int content(int)", "int factors(int)", "int factor(int, int, int)", "int simple(int, int)",
        "int factorsModulo(int, int)", "int degreeModulo(int, int, int)", "int rootsModulo(int, int)"
    };
    private static final String[] CONSTANTS = {
        "BAD", "FULL", "NONE", "ADD", "SUB", "MUL", "GCD", "QUOTIENT", "REST"
    };

    private static String form(Method m) {
        StringBuilder form = new StringBuilder(m.getReturnType() + " " + m.getName() + "(");
        for (int i = 0; i < m.getParameterCount(); i++) {
            form.append(i == 0 ? "" : ", ").append(m.getParameterTypes()[i]);
        }
        return form.append(")").toString();
    }

    private static void methods() {
        TreeSet<String> visible = new TreeSet<>();
        TreeSet<String> publicNames = new TreeSet<>();
        for (Method m : FactorDesk.class.getDeclaredMethods()) {
            if (!Modifier.isPrivate(m.getModifiers())) {
                visible.add(form(m));
                publicNames.add(m.getName());
                Check.due(m + " is public and of the object", Modifier.isPublic(m.getModifiers()) && !Modifier.isStatic(m.getModifiers()), true);
            }
        }
        for (Method m : FactorDesk.class.getDeclaredMethods()) {
            if (Modifier.isPrivate(m.getModifiers())) {
                Check.due("private " + m.getName() + " bears a public name", publicNames.contains(m.getName()), false);
            }
        }
        Check.due("the methods " + visible, visible.equals(new TreeSet<>(Arrays.asList(METHODS))), true);
    }

    private static void fields() {
        TreeSet<String> visible = new TreeSet<>();
        for (Field f : FactorDesk.class.getDeclaredFields()) {
            if (!Modifier.isPrivate(f.getModifiers())) {
                visible.add(f.getName());
                int wanted = Modifier.PUBLIC | Modifier.STATIC | Modifier.FINAL;
                Check.due(f + " is a public constant", f.getModifiers() == wanted && f.getType() == int.class, true);
            }
        }
        Check.due("the constants " + visible, visible.equals(new TreeSet<>(Arrays.asList(CONSTANTS))), true);
    }

    private static void constants() {
        Check.due("BAD", FactorDesk.BAD, -1000);
        Check.due("FULL", FactorDesk.FULL, -1001);
        Check.due("NONE", FactorDesk.NONE, -1002);
        Check.due("ADD", FactorDesk.ADD, 0);
        Check.due("SUB", FactorDesk.SUB, 1);
        Check.due("MUL", FactorDesk.MUL, 2);
        Check.due("GCD", FactorDesk.GCD, 3);
        Check.due("QUOTIENT", FactorDesk.QUOTIENT, 4);
        Check.due("REST", FactorDesk.REST, 5);
    }

    public static void main(String[] args) {
        methods();
        fields();
        constants();
        Constructor<?>[] constructors = FactorDesk.class.getDeclaredConstructors();
        Check.due("the number of constructors", constructors.length, 1);
        Check.due("the constructor's parameters", constructors[0].getParameterCount(), 0);
        Check.due("the constructor is public", Modifier.isPublic(constructors[0].getModifiers()), true);
        Check.due("the class is public and final", FactorDesk.class.getModifiers(), Modifier.PUBLIC | Modifier.FINAL);
        Check.due("nested classes", FactorDesk.class.getDeclaredClasses().length, 0);
        Check.finish();
    }
}
