import java.lang.reflect.Constructor;
import java.lang.reflect.Field;
import java.lang.reflect.Method;
import java.lang.reflect.Modifier;
import java.util.ArrayList;
import java.util.Arrays;
import java.util.Collections;
import java.util.List;

/** The class has the document's face and nothing else that can be seen from outside. */
public final class FaceTest {
    private static final String[] FACE = {
        "int choose(char, int) IllegalArgumentException",
        "int matrix(int, int) IllegalStateException IndexOutOfBoundsException",
        "int coefficient(int, int) IllegalStateException IndexOutOfBoundsException",
        "int square(int) IllegalStateException IndexOutOfBoundsException",
        "int exponent(int) IllegalStateException IndexOutOfBoundsException",
        "long order() IllegalStateException",
        "int put(int) IllegalStateException IndexOutOfBoundsException UnsupportedOperationException",
        "int clear()",
        "int length() IllegalStateException",
        "int reducedAt(int) IllegalStateException IndexOutOfBoundsException",
        "boolean goesDown(int, boolean) IllegalStateException IndexOutOfBoundsException",
        "int keep() IllegalStateException",
        "boolean isBelow() IllegalStateException",
        "int polynomial(int) IllegalStateException IllegalArgumentException UnsupportedOperationException NoSuchElementException",
        "int set(int, int, int) IllegalStateException IndexOutOfBoundsException IllegalArgumentException",
        "int get(int, int) IllegalStateException IndexOutOfBoundsException",
        "int act(int) IllegalStateException IndexOutOfBoundsException",
        "int raise(int) IllegalStateException IndexOutOfBoundsException",
        "int orbit(int) IllegalStateException IndexOutOfBoundsException",
        "int pairing(int, int) IllegalStateException IndexOutOfBoundsException",
        "boolean isLower(int, int) IllegalStateException IndexOutOfBoundsException",
        "long dimension(int) IllegalStateException IndexOutOfBoundsException UnsupportedOperationException",
        "int multiplicity(int, int) IllegalStateException IndexOutOfBoundsException UnsupportedOperationException ArithmeticException",
        "int dominant(int) IllegalStateException IndexOutOfBoundsException UnsupportedOperationException ArithmeticException",
        "int multiply(int, int) IllegalStateException IndexOutOfBoundsException UnsupportedOperationException ArithmeticException",
        "int fuse(int, int, int) IllegalStateException IndexOutOfBoundsException UnsupportedOperationException IllegalArgumentException ArithmeticException",
        "int branch(int, int) IllegalStateException IndexOutOfBoundsException UnsupportedOperationException ArithmeticException",
        "int partAt(int, int) IllegalStateException IndexOutOfBoundsException",
        "int times(int) IllegalStateException IndexOutOfBoundsException",
        "float meanLength() IllegalStateException",
        "double ratio(int, int) IllegalStateException IndexOutOfBoundsException UnsupportedOperationException",
        "char type()",
        "boolean isConsistent() IllegalStateException",
    };

    private static int wrong = 0;

    private static void due(String what, Object got, Object want) {
        if (!got.equals(want)) {
            wrong++;
            System.out.println(what + " is " + got + ", due is " + want);
        }
    }

    public static void main(String[] args) {
        testClass();
        testMethods();
        testNoNameTwice();
        System.out.println(wrong == 0 ? "all answers are as due" : wrong + " answers are wrong");
        System.exit(wrong == 0 ? 0 : 1);
    }

    private static void testClass() {
        due("the class", Modifier.toString(Weightlattice.class.getModifiers()), "public final");
        Constructor<?>[] constructors = Weightlattice.class.getDeclaredConstructors();
        due("constructors", constructors.length, 1);
        due("the constructor", constructors[0].toString(), "public Weightlattice()");
        for (Field field : Weightlattice.class.getDeclaredFields()) {
            due("private " + field.getName(), Modifier.isPrivate(field.getModifiers()), true);
        }
        for (Class<?> inner : Weightlattice.class.getDeclaredClasses()) {
            due("static " + inner, Modifier.isStatic(inner.getModifiers()), true);
            due("not seen from outside " + inner, (inner.getModifiers() & (Modifier.PUBLIC | Modifier.PROTECTED)), 0);
        }
    }

    private static String faceOf(Method method) {
        StringBuilder text = new StringBuilder(method.getReturnType().getSimpleName());
        text.append(' ').append(method.getName()).append('(');
        for (int i = 0; i < method.getParameterCount(); i++) {
            text.append(i == 0 ? "" : ", ").append(method.getParameterTypes()[i].getSimpleName());
        }
        text.append(')');
        for (Class<?> thrown : method.getExceptionTypes()) {
            text.append(' ').append(thrown.getSimpleName());
        }
        return text.toString();
    }

    private static void testMethods() {
        List<String> found = new ArrayList<>();
        for (Method method : Weightlattice.class.getDeclaredMethods()) {
            if (!Modifier.isPrivate(method.getModifiers()) && !method.isSynthetic()) {
                due("modifiers of " + method.getName(), Modifier.toString(method.getModifiers()), "public");
                found.add(faceOf(method));
            }
        }
        List<String> want = new ArrayList<>(Arrays.asList(FACE));
        Collections.sort(found);
        Collections.sort(want);
        due("the face", found, want);
    }

    private static void testNoNameTwice() {
        List<String> names = new ArrayList<>();
        for (String line : FACE) {
            names.add(line.substring(line.indexOf(' ') + 1, line.indexOf('(')));
        }
        List<Class<?>> classes = new ArrayList<>();
        classes.add(Weightlattice.class);
        classes.addAll(Arrays.asList(Weightlattice.class.getDeclaredClasses()));
        for (Class<?> one : classes) {
            for (Method method : one.getDeclaredMethods()) {
                if (Modifier.isPublic(method.getModifiers()) && one == Weightlattice.class) {
                    continue;
                }
                due("a name of the face in " + method, names.contains(method.getName()), false);
            }
        }
    }
}
