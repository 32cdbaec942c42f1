import java.lang.reflect.InvocationTargetException;
import java.lang.reflect.Method;
import java.util.ArrayList;
import java.util.Arrays;
import java.util.Comparator;
import java.util.List;
import java.util.Random;

/** Long random runs: each call answers or throws what it may, a call that throws changes nothing, runs repeat. */
public final class LongRunsTest {
    private static final int[] ODD = {Integer.MIN_VALUE, -1000, -1, 13, 48, 300, 1000, Integer.MAX_VALUE};

    private static int wrong = 0;

    private static void tell(String text) {
        wrong++;
        System.out.println(text);
    }

    public static void main(String[] args) {
        for (int seed = 0; seed < 1000; seed++) {
            List<String> once = run(seed);
            if (!once.equals(run(seed))) {
                tell("run " + seed + " does not repeat");
            }
        }
        for (int seed = 0; seed < 20; seed++) {
            growing(seed);
        }
        System.out.println(wrong == 0 ? "all answers are as due" : wrong + " answers are wrong");
        System.exit(wrong == 0 ? 0 : 1);
    }

    private static Method[] methods() {
        List<Method> found = new ArrayList<>();
        for (Method method : Weightlattice.class.getDeclaredMethods()) {
            if (java.lang.reflect.Modifier.isPublic(method.getModifiers())) {
                found.add(method);
            }
        }
        found.sort(Comparator.comparing(Method::getName));
        return found.toArray(new Method[0]);
    }

    private static Object argument(Class<?> type, String method, int at, Random random) {
        if (type == boolean.class) {
            return random.nextBoolean();
        }
        if (type == char.class) {
            return "ABCDGABCDGEa-".charAt(random.nextInt(13));
        }
        if (random.nextInt(40) == 0) {
            return ODD[random.nextInt(ODD.length)];
        }
        if (method.equals("set") && at == 2) {
            return random.nextInt(3) == 0 ? random.nextInt(19) - 9 : random.nextInt(3);
        }
        if (method.equals("fuse") && at == 2) {
            return random.nextInt(8);
        }
        return random.nextInt(method.equals("choose") ? 5 : 4);
    }

    private static String call(Weightlattice x, Method method, Object[] given) {
        try {
            return String.valueOf(method.invoke(x, given));
        } catch (InvocationTargetException e) {
            Throwable thrown = e.getCause();
            for (Class<?> allowed : method.getExceptionTypes()) {
                if (thrown.getClass() == allowed) {
                    return thrown.getClass().getSimpleName();
                }
            }
            tell(method.getName() + Arrays.toString(given) + " threw " + thrown);
            return "wrong";
        } catch (IllegalAccessException e) {
            throw new IllegalStateException(e);
        }
    }

    /** Looking at the state takes calls too, so a run is either long or looked at. */
    private static List<String> run(int seed) {
        Random random = new Random(seed);
        boolean looked = seed % 2 == 0;
        Weightlattice x = new Weightlattice();
        List<String> told = new ArrayList<>();
        if (seed % 10 != 0) {
            x.choose("ABCDG".charAt(seed % 5), new int[] {2 + seed % 3, 3, 3, 4, 2}[seed % 5]);
        }
        for (int k = 0; k < (looked ? 22 : 510); k++) {
            Method method = pick(random);
            Object[] given = new Object[method.getParameterCount()];
            for (int i = 0; i < given.length; i++) {
                given[i] = argument(method.getParameterTypes()[i], method.getName(), i, random);
            }
            String before = looked ? state(x) : "";
            String answer = call(x, method, given);
            told.add(method.getName() + Arrays.toString(given) + " " + answer);
            String after = looked ? state(x) : "";
            if (!before.equals(after) && (answer.endsWith("Exception") || !mayChange(method.getName()))) {
                tell(told.get(k) + " and changed " + before + " to " + after);
            }
        }
        return told;
    }

    private static Method pick(Random random) {
        Method[] methods = methods();
        Method method = methods[random.nextInt(methods.length)];
        return method.getName().equals("choose") && random.nextInt(4) != 0 ? pick(random) : method;
    }

    private static boolean mayChange(String name) {
        return Arrays.asList("choose", "put", "clear", "keep", "set", "act", "raise", "multiply", "fuse", "branch").contains(name);
    }

    private static String state(Weightlattice x) {
        if (x.type() == '-') {
            return "";
        }
        StringBuilder text = new StringBuilder();
        text.append(x.type()).append(' ').append(x.length()).append(x.isBelow()).append(' ');
        try {
            text.append(x.times(0)).append(x.partAt(0, 0));
        } catch (IndexOutOfBoundsException e) {
            text.append("none");
        }
        for (int r = 0; r < 4; r++) {
            text.append(' ').append(x.get(r, 0));
        }
        return text.toString();
    }

    /** Weights that double again and again go beyond all numbers of the machine: each call still comes to an end. */
    private static void growing(int seed) {
        Random random = new Random(seed);
        Weightlattice x = new Weightlattice();
        x.choose('G', 2);
        x.set(0, 0, 9);
        int[] word = {1, 0};
        for (int mirror : word) {
            x.put(mirror);
        }
        for (int k = 0; k < 80; k++) {
            x.act(0);
            x.set(0, random.nextInt(10) == 0 ? 0 : 1, random.nextInt(3));
            if (k % 7 == seed % 7) {
                x.orbit(0);
                x.isLower(1, 0);
                x.pairing(0, 5);
                x.multiplicity(1, 0);
                x.isConsistent();
                x.raise(0);
                call(x, methodOf("dimension"), new Object[] {0});
                call(x, methodOf("multiply"), new Object[] {0, 1});
            }
        }
    }

    private static Method methodOf(String name) {
        for (Method method : methods()) {
            if (method.getName().equals(name)) {
                return method;
            }
        }
        throw new IllegalStateException(name);
    }
}
