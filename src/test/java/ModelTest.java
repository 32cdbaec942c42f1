import java.lang.reflect.InvocationTargetException;
import java.lang.reflect.Method;
import java.lang.reflect.Modifier;
import java.math.BigInteger;
import java.util.ArrayDeque;
import java.util.ArrayList;
import java.util.Arrays;
import java.util.Collections;
import java.util.Comparator;
import java.util.HashMap;
import java.util.HashSet;
import java.util.List;
import java.util.Map;
import java.util.NoSuchElementException;
import java.util.Random;
import java.util.Set;
import java.util.TreeMap;

/**
 * Reads the document a second time: a model with the same face, written sentence by sentence in the slowest and plainest
 * way (every element, every orbit and every weight is listed), is asked the same random calls, and each answer, each
 * exception, and by later calls each change of state, must be the same.
 */
public final class ModelTest {
    private static final int RUNS = 450;
    private static final int[] ODD = {Integer.MIN_VALUE, -10, -1, 4, 9, 10, 12, 40, 41, 50, 51, Integer.MAX_VALUE};
    private static final String[] SYSTEMS = {"A1", "A2", "A3", "A4", "B2", "B3", "C3", "D4", "G2"};

    private static int wrong = 0;

    public static void main(String[] args) throws IllegalAccessException {
        for (int seed = 0; seed < RUNS && wrong == 0; seed++) {
            new Run(seed).go();
        }
        System.out.println(wrong == 0 ? "all answers are as due" : wrong + " answers are wrong");
        System.exit(wrong == 0 ? 0 : 1);
    }

    /** One run of 512 calls on an object and on a model. */
    private static final class Run {
        private final int seed;
        private final Random random;
        private final Weightlattice hall = new Weightlattice();
        private final Model model = new Model();
        private final Map<String, Method> asked = new TreeMap<>();
        private final List<String> names = new ArrayList<>();
        private final List<String> told = new ArrayList<>();

        Run(int seed) {
            this.seed = seed;
            random = new Random(seed);
            for (Method method : Weightlattice.class.getDeclaredMethods()) {
                if (Modifier.isPublic(method.getModifiers())) {
                    asked.put(method.getName(), method);
                }
            }
            names.addAll(asked.keySet());
            // What changes the state is asked more often, and what takes it all away more seldom.
            Collections.addAll(names, "set", "set", "set", "set", "set", "set", "put", "put", "put", "act", "keep", "raise", "fuse", "fuse");
            if (seed % 3 != 0) {
                names.remove("choose");
            }
            if (seed % 2 != 0) {
                names.remove("clear");
            }
        }

        void go() throws IllegalAccessException {
            String system = SYSTEMS[seed % SYSTEMS.length];
            if (seed % 50 != 49) {
                both("choose", system.charAt(0), system.charAt(1) - '0');
            }
            for (int k = 1; k < 512 && wrong == 0; k++) {
                String name = names.get(random.nextInt(names.size()));
                both(name, arguments(name));
            }
        }

        private void both(String name, Object... given) throws IllegalAccessException {
            String call = name + Arrays.toString(given);
            String got = answer(asked.get(name), hall, given);
            Method same = null;
            for (Method method : Model.class.getDeclaredMethods()) {
                same = method.getName().equals(name) ? method : same;
            }
            String want = answer(same, model, given);
            told.add(call + " " + got);
            if (!got.equals(want)) {
                wrong++;
                System.out.println("run " + seed + ": " + String.join(", ", told) + "; due is " + want);
            }
        }

        private static String answer(Method method, Object object, Object[] given) throws IllegalAccessException {
            try {
                return String.valueOf(method.invoke(object, given));
            } catch (InvocationTargetException e) {
                return e.getCause().getClass().getSimpleName();
            }
        }

        private Object[] arguments(String name) {
            switch (name) {
                case "choose":
                    String system = SYSTEMS[random.nextInt(SYSTEMS.length)];
                    return new Object[] {odd() ? "EF-ab".charAt(random.nextInt(5)) : system.charAt(0), odd() ? random.nextInt(6) : system.charAt(1) - '0'};
                case "matrix":
                    return new Object[] {simple(), simple()};
                case "coefficient":
                    return new Object[] {root(), simple()};
                case "square":
                    return new Object[] {root()};
                case "exponent":
                case "put":
                    return new Object[] {simple()};
                case "reducedAt":
                    return new Object[] {root()};
                case "goesDown":
                    return new Object[] {simple(), random.nextBoolean()};
                case "polynomial":
                    return new Object[] {any(random.nextBoolean() ? 2 : 10)};
                case "set":
                    return new Object[] {any(4), simple(), value()};
                case "get":
                    return new Object[] {any(4), simple()};
                case "pairing":
                    return new Object[] {any(4), root()};
                case "branch":
                    return new Object[] {any(4), simple()};
                case "fuse":
                    return new Object[] {any(4), any(4), any(random.nextBoolean() ? 8 : 51)};
                case "partAt":
                    return new Object[] {any(6), simple()};
                case "times":
                    return new Object[] {any(6)};
                default:
                    Object[] registers = new Object[asked.get(name).getParameterCount()];
                    Arrays.setAll(registers, k -> any(4));
                    return registers;
            }
        }

        private boolean odd() {
            return random.nextInt(40) == 0;
        }

        private int any(int count) {
            return odd() ? ODD[random.nextInt(ODD.length)] : random.nextInt(count);
        }

        private int simple() {
            return any(model.type() == '-' ? 4 : model.system.n);
        }

        private int root() {
            return any(model.type() == '-' ? 12 : model.system.positive.size());
        }

        private int value() {
            int kind = random.nextInt(10);
            return odd() ? ODD[random.nextInt(ODD.length)] : kind < 7 ? random.nextInt(3) : kind < 9 ? random.nextInt(6) - 3 : random.nextInt(19) - 9;
        }
    }

    /** What the document says, call by call. */
    public static final class Model {
        private static final Map<String, Tables> ALL = new HashMap<>();

        private Tables system;
        private final List<Integer> word = new ArrayList<>();
        private int kept;
        private final BigInteger[][] registers = new BigInteger[4][];
        private List<List<Long>> parts = new ArrayList<>();
        private List<Long> counts = new ArrayList<>();

        public int choose(char type, int rank) {
            if (!Arrays.asList(SYSTEMS).contains("" + type + rank)) {
                throw new IllegalArgumentException();
            }
            system = ALL.computeIfAbsent("" + type + rank, key -> new Tables(type, rank));
            word.clear();
            kept = 0;
            for (int r = 0; r < 4; r++) {
                registers[r] = new BigInteger[rank];
                Arrays.fill(registers[r], BigInteger.ZERO);
            }
            parts = new ArrayList<>();
            counts = new ArrayList<>();
            return system.positive.size();
        }

        public int matrix(int i, int j) {
            needSystem();
            needIndex(i, system.n);
            needIndex(j, system.n);
            return system.matrix[i][j];
        }

        public int coefficient(int root, int i) {
            needSystem();
            needIndex(root, system.positive.size());
            needIndex(i, system.n);
            return system.positive.get(root).get(i);
        }

        public int square(int root) {
            needSystem();
            needIndex(root, system.positive.size());
            return system.squares.get(system.positive.get(root));
        }

        public int exponent(int index) {
            needSystem();
            needIndex(index, system.n);
            return system.exponents.get(index);
        }

        public long order() {
            needSystem();
            return system.elements.size();
        }

        public int put(int mirror) {
            needSystem();
            needIndex(mirror, system.n);
            if (word.size() == 40) {
                throw new UnsupportedOperationException();
            }
            word.add(mirror);
            return word.size();
        }

        public int clear() {
            int had = word.size();
            word.clear();
            return had;
        }

        public int length() {
            needSystem();
            return system.lengths.get(element());
        }

        public int reducedAt(int index) {
            needSystem();
            needIndex(index, system.lengths.get(element()));
            return system.firstReduced.get(element()).get(index);
        }

        public boolean goesDown(int mirror, boolean before) {
            needSystem();
            needIndex(mirror, system.n);
            int changed = before ? system.product(system.mirrors[mirror], element()) : system.product(element(), system.mirrors[mirror]);
            return system.lengths.get(changed) < system.lengths.get(element());
        }

        public int keep() {
            needSystem();
            int before = system.lengths.get(kept);
            kept = element();
            return before;
        }

        public boolean isBelow() {
            needSystem();
            return system.below.get(kept).contains(element());
        }

        public int polynomial(int power) {
            needSystem();
            if (power < 0 || power > 9) {
                throw new IllegalArgumentException();
            }
            if (order() > 48) {
                throw new UnsupportedOperationException();
            }
            if (!isBelow()) {
                throw new NoSuchElementException();
            }
            return system.polynomials(kept).get(element())[power];
        }

        public int set(int register, int index, int value) {
            int before = get(register, index);
            if (value < -9 || value > 9) {
                throw new IllegalArgumentException();
            }
            registers[register][index] = BigInteger.valueOf(value);
            return before;
        }

        public int get(int register, int index) {
            needSystem();
            needIndex(register, 4);
            needIndex(index, system.n);
            return registers[register][index].intValue();
        }

        public int act(int register) {
            needSystem();
            needIndex(register, 4);
            BigInteger[] before = registers[register];
            for (int k = word.size() - 1; k >= 0; k--) {
                registers[register] = system.mirrored(registers[register], word.get(k));
            }
            int others = 0;
            for (int i = 0; i < system.n; i++) {
                others += before[i].equals(registers[register][i]) ? 0 : 1;
            }
            return others;
        }

        public int raise(int register) {
            needSystem();
            needIndex(register, 4);
            Map<List<BigInteger>, Integer> reached = system.reached(registers[register]);
            for (List<BigInteger> weight : reached.keySet()) {
                if (weight.stream().allMatch(c -> c.signum() >= 0)) {
                    registers[register] = weight.toArray(new BigInteger[0]);
                    return reached.get(weight);
                }
            }
            throw new AssertionError("no dominant weight");
        }

        public int orbit(int register) {
            needSystem();
            needIndex(register, 4);
            return system.reached(registers[register]).size();
        }

        public int pairing(int register, int root) {
            needSystem();
            needIndex(register, 4);
            needIndex(root, system.positive.size());
            return system.pairing(registers[register], system.positive.get(root)).intValue();
        }

        public boolean isLower(int one, int other) {
            needSystem();
            needIndex(one, 4);
            needIndex(other, 4);
            BigInteger[] difference = new BigInteger[system.n];
            Arrays.setAll(difference, i -> registers[other][i].subtract(registers[one][i]));
            List<BigInteger> sum = system.asSimpleRoots(difference);
            return sum != null && sum.stream().allMatch(c -> c.signum() >= 0);
        }

        public long dimension(int register) {
            needSystem();
            needIndex(register, 4);
            needDominant(register);
            return system.dimension(weight(register));
        }

        public int multiplicity(int register, int other) {
            needSystem();
            needIndex(register, 4);
            needIndex(other, 4);
            needDominant(register);
            needSmall(register);
            for (Map.Entry<List<Long>, Long> entry : system.character(weight(register)).entrySet()) {
                if (Arrays.asList(registers[other]).equals(big(entry.getKey()))) {
                    return entry.getValue().intValue();
                }
            }
            return 0;
        }

        public int dominant(int register) {
            needSystem();
            needIndex(register, 4);
            needDominant(register);
            needSmall(register);
            return (int) system.character(weight(register)).keySet().stream().filter(x -> x.stream().allMatch(c -> c >= 0)).count();
        }

        public int multiply(int one, int other) {
            needSystem();
            needIndex(one, 4);
            needIndex(other, 4);
            needDominant(one);
            needDominant(other);
            needSmall(one);
            return split(system.splitProduct(weight(one), weight(other)));
        }

        public int fuse(int one, int other, int level) {
            needSystem();
            needIndex(one, 4);
            needIndex(other, 4);
            needDominant(one);
            needDominant(other);
            if (level < 0 || level > 50 || level < system.level(weight(one)) || level < system.level(weight(other))) {
                throw new IllegalArgumentException();
            }
            needSmall(one);
            return split(system.splitAtLevel(weight(one), weight(other), level));
        }

        public int branch(int register, int mirror) {
            needSystem();
            needIndex(register, 4);
            needIndex(mirror, system.n);
            needDominant(register);
            needSmall(register);
            return split(system.splitWithout(weight(register), mirror));
        }

        public int partAt(int part, int index) {
            needSystem();
            needIndex(part, parts.size());
            needIndex(index, system.n);
            return parts.get(part).get(index).intValue();
        }

        public int times(int part) {
            needSystem();
            needIndex(part, parts.size());
            return counts.get(part).intValue();
        }

        public float meanLength() {
            needSystem();
            return (float) system.positive.size() / 2f;
        }

        public double ratio(int one, int other) {
            needSystem();
            needIndex(one, 4);
            needIndex(other, 4);
            needDominant(one);
            needDominant(other);
            return (double) dimension(one) / (double) dimension(other);
        }

        public char type() {
            return system == null ? '-' : system.type;
        }

        public boolean isConsistent() {
            needSystem();
            return true;
        }

        private void needSystem() {
            if (system == null) {
                throw new IllegalStateException();
            }
        }

        private static void needIndex(int index, int count) {
            if (index < 0 || index >= count) {
                throw new IndexOutOfBoundsException();
            }
        }

        private void needDominant(int register) {
            for (BigInteger coordinate : registers[register]) {
                if (coordinate.signum() < 0 || coordinate.compareTo(BigInteger.valueOf(30)) > 0) {
                    throw new UnsupportedOperationException();
                }
            }
        }

        private void needSmall(int register) {
            if (dimension(register) > 300) {
                throw new ArithmeticException();
            }
        }

        private int element() {
            int element = 0;
            for (int mirror : word) {
                element = system.product(element, system.mirrors[mirror]);
            }
            return element;
        }

        private List<Long> weight(int register) {
            List<Long> weight = new ArrayList<>();
            for (BigInteger coordinate : registers[register]) {
                weight.add(coordinate.longValueExact());
            }
            return weight;
        }

        private static List<BigInteger> big(List<Long> weight) {
            List<BigInteger> row = new ArrayList<>();
            weight.forEach(c -> row.add(BigInteger.valueOf(c)));
            return row;
        }

        private int split(Map<List<Long>, Long> found) {
            found.values().removeIf(count -> count == 0);
            parts = new ArrayList<>(found.keySet());
            parts.sort((a, b) -> greaterFirst(a, b));
            counts = new ArrayList<>();
            parts.forEach(part -> counts.add(found.get(part)));
            return parts.size();
        }

        private static int greaterFirst(List<Long> a, List<Long> b) {
            for (int i = 0; i < a.size(); i++) {
                if (!a.get(i).equals(b.get(i))) {
                    return Long.compare(b.get(i), a.get(i));
                }
            }
            return 0;
        }
    }

    /** Lists of all there is in a system. */
    private static final class Tables {
        private final char type;
        private final int n;
        private final int[][] matrix;
        private final List<List<Integer>> positive = new ArrayList<>();
        private final Map<List<Integer>, Integer> squares = new HashMap<>();
        private final List<Integer> exponents = new ArrayList<>();
        // An element is a row of rows: what it makes of each weight with one coordinate 1 and the others 0.
        private final List<List<List<Long>>> elements = new ArrayList<>();
        private final Map<List<List<Long>>, Integer> numbers = new HashMap<>();
        private final List<Integer> lengths = new ArrayList<>();
        private final List<List<Integer>> firstReduced = new ArrayList<>();
        private final List<Set<Integer>> below = new ArrayList<>();
        private final int[] mirrors;
        private final Map<Integer, Map<Integer, int[]>> polynomials = new HashMap<>();
        private final Map<List<Long>, Map<List<Long>, Long>> characters = new HashMap<>();

        Tables(char type, int n) {
            this.type = type;
            this.n = n;
            matrix = new int[n][n];
            mirrors = new int[n];
            fillMatrix();
            listRoots();
            listExponents();
            listElements();
            listBelow();
        }

        private boolean neighbours(int i, int j) {
            return type == 'D' ? i == 1 && j != 1 || j == 1 && i != 1 : Math.abs(i - j) == 1;
        }

        private void fillMatrix() {
            for (int i = 0; i < n; i++) {
                for (int j = 0; j < n; j++) {
                    matrix[i][j] = i == j ? 2 : neighbours(i, j) ? -1 : 0;
                    if (type == 'B' && i == n - 2 && j == n - 1 || type == 'C' && i == n - 1 && j == n - 2) {
                        matrix[i][j] = -2;
                    }
                    if (type == 'G' && i == 1 && j == 0) {
                        matrix[i][j] = -3;
                    }
                }
            }
        }

        /** All that mirrors make of the simple roots, each class of them with one square, told by what neighbours have. */
        private void listRoots() {
            for (int i = 0; i < n; i++) {
                List<Integer> simple = new ArrayList<>(Collections.nCopies(n, 0));
                simple.set(i, 1);
                Set<List<Integer>> reached = new HashSet<>(List.of(simple));
                ArrayDeque<List<Integer>> open = new ArrayDeque<>(reached);
                while (!open.isEmpty()) {
                    List<Integer> root = open.remove();
                    for (int m = 0; m < n; m++) {
                        List<Integer> image = new ArrayList<>(root);
                        image.set(m, root.get(m) - coordinate(root, m));
                        if (reached.add(image)) {
                            open.add(image);
                        }
                    }
                }
                for (List<Integer> root : reached) {
                    if (root.stream().allMatch(c -> c >= 0) && squares.put(root, squareOfSimple(i)) == null) {
                        positive.add(root);
                    }
                }
            }
            positive.sort(Comparator.comparing((List<Integer> root) -> sum(root)).thenComparing((a, b) -> greaterFirst(a, b)));
        }

        private int squareOfSimple(int i) {
            boolean shortest = true;
            for (int j = 0; j < n; j++) {
                shortest &= matrix[i][j] >= -1 || matrix[j][i] < matrix[i][j];
                for (int k = 0; k < n; k++) {
                    shortest &= !(matrix[i][j] == -1 && matrix[j][i] == -1 && matrix[j][k] < -1);
                }
            }
            return shortest ? 2 : type == 'G' ? 6 : 4;
        }

        private int coordinate(List<Integer> root, int j) {
            int sum = 0;
            for (int i = 0; i < n; i++) {
                sum += root.get(i) * matrix[i][j];
            }
            return sum;
        }

        private static int sum(List<Integer> root) {
            return root.stream().mapToInt(c -> c).sum();
        }

        private static int greaterFirst(List<Integer> a, List<Integer> b) {
            for (int i = 0; i < a.size(); i++) {
                if (!a.get(i).equals(b.get(i))) {
                    return b.get(i) - a.get(i);
                }
            }
            return 0;
        }

        private void listExponents() {
            for (int h = sum(positive.get(positive.size() - 1)); h >= 1; h--) {
                int atLeast = 0;
                for (List<Integer> root : positive) {
                    atLeast += sum(root) == h ? 1 : 0;
                }
                while (exponents.size() < atLeast) {
                    exponents.add(0, h);
                }
            }
        }

        private void listElements() {
            List<List<Long>> one = new ArrayList<>();
            for (int i = 0; i < n; i++) {
                List<Long> row = new ArrayList<>(Collections.nCopies(n, 0L));
                row.set(i, 1L);
                one.add(row);
            }
            enter(one, 0, new ArrayList<>());
            for (int w = 0; w < elements.size(); w++) {
                for (int i = 0; i < n; i++) {
                    List<Integer> longer = new ArrayList<>(firstReduced.get(w));
                    longer.add(i);
                    enter(compose(elements.get(w), mirrorRows(one, i)), lengths.get(w) + 1, longer);
                }
            }
            for (int i = 0; i < n; i++) {
                mirrors[i] = numbers.get(mirrorRows(one, i));
            }
        }

        /** Shorter words come first, and among those of one length the lower ones, so the first to come stands. */
        private void enter(List<List<Long>> element, int length, List<Integer> reduced) {
            if (numbers.putIfAbsent(element, elements.size()) == null) {
                elements.add(element);
                lengths.add(length);
                firstReduced.add(reduced);
            }
        }

        private List<List<Long>> mirrorRows(List<List<Long>> one, int mirror) {
            List<List<Long>> rows = new ArrayList<>();
            for (List<Long> row : one) {
                rows.add(mirrored(row, mirror));
            }
            return rows;
        }

        private List<Long> mirrored(List<Long> x, int mirror) {
            List<Long> image = new ArrayList<>();
            for (int j = 0; j < n; j++) {
                image.add(x.get(j) - x.get(mirror) * matrix[mirror][j]);
            }
            return image;
        }

        BigInteger[] mirrored(BigInteger[] x, int mirror) {
            BigInteger[] image = new BigInteger[n];
            Arrays.setAll(image, j -> x[j].subtract(x[mirror].multiply(BigInteger.valueOf(matrix[mirror][j]))));
            return image;
        }

        private List<Long> image(List<List<Long>> element, List<Long> x) {
            List<Long> sum = new ArrayList<>();
            for (int j = 0; j < n; j++) {
                long total = 0;
                for (int i = 0; i < n; i++) {
                    total += x.get(i) * element.get(i).get(j);
                }
                sum.add(total);
            }
            return sum;
        }

        private List<List<Long>> compose(List<List<Long>> last, List<List<Long>> first) {
            List<List<Long>> rows = new ArrayList<>();
            for (List<Long> row : first) {
                rows.add(image(last, row));
            }
            return rows;
        }

        int product(int last, int first) {
            return numbers.get(compose(elements.get(last), elements.get(first)));
        }

        /** What comes of a reduced word by leaving mirrors out. */
        private void listBelow() {
            for (int w = 0; w < elements.size(); w++) {
                Set<Integer> reached = new HashSet<>(List.of(0));
                for (int mirror : firstReduced.get(w)) {
                    for (int x : new ArrayList<>(reached)) {
                        reached.add(product(x, mirrors[mirror]));
                    }
                }
                below.add(reached);
            }
        }

        /** The basis of Kazhdan and Lusztig, by products in the algebra of Hecke. */
        Map<Integer, int[]> polynomials(int w) {
            Map<Integer, int[]> found = polynomials.get(w);
            if (found != null) {
                return found;
            }
            found = new HashMap<>();
            if (w == 0) {
                add(found, 0, 0, 1);
            } else {
                List<Integer> reduced = firstReduced.get(w);
                int s = mirrors[reduced.get(reduced.size() - 1)];
                int v = product(w, s);
                for (Map.Entry<Integer, int[]> term : polynomials(v).entrySet()) {
                    timesMirror(found, term.getKey(), term.getValue(), s);
                }
                for (Map.Entry<Integer, int[]> term : polynomials(v).entrySet()) {
                    takeAwayLower(found, w, v, term.getKey(), s);
                }
            }
            polynomials.put(w, found);
            return found;
        }

        private void timesMirror(Map<Integer, int[]> into, int x, int[] polynomial, int s) {
            int xs = product(x, s);
            boolean up = lengths.get(xs) > lengths.get(x);
            for (int power = 0; power < 10; power++) {
                // (T_x)(T_s + 1) is T_xs + T_x if xs is longer, else q T_x + q T_xs.
                add(into, x, power + (up ? 0 : 1), polynomial[power]);
                add(into, xs, power + (up ? 0 : 1), polynomial[power]);
            }
        }

        private void takeAwayLower(Map<Integer, int[]> from, int w, int v, int z, int s) {
            int gap = lengths.get(v) - lengths.get(z);
            if (gap % 2 == 0 || lengths.get(product(z, s)) > lengths.get(z)) {
                return;
            }
            int leading = polynomials(v).get(z)[(gap - 1) / 2];
            for (Map.Entry<Integer, int[]> term : polynomials(z).entrySet()) {
                for (int power = 0; power < 10; power++) {
                    add(from, term.getKey(), power + (lengths.get(w) - lengths.get(z)) / 2, -leading * term.getValue()[power]);
                }
            }
        }

        private static void add(Map<Integer, int[]> into, int x, int power, int count) {
            if (count != 0) {
                into.computeIfAbsent(x, key -> new int[10])[power] += count;
            }
        }

        /** All that mirrors make of a weight, each with the least number of mirrors. */
        Map<List<BigInteger>, Integer> reached(BigInteger[] x) {
            Map<List<BigInteger>, Integer> steps = new HashMap<>();
            ArrayDeque<BigInteger[]> open = new ArrayDeque<>();
            steps.put(Arrays.asList(x), 0);
            open.add(x);
            while (!open.isEmpty()) {
                BigInteger[] weight = open.remove();
                for (int i = 0; i < n; i++) {
                    BigInteger[] image = mirrored(weight, i);
                    if (steps.putIfAbsent(Arrays.asList(image), steps.get(Arrays.asList(weight)) + 1) == null) {
                        open.add(image);
                    }
                }
            }
            return steps;
        }

        BigInteger pairing(BigInteger[] x, List<Integer> root) {
            BigInteger sum = BigInteger.ZERO;
            for (int i = 0; i < n; i++) {
                List<Integer> simple = new ArrayList<>(Collections.nCopies(n, 0));
                simple.set(i, 1);
                sum = sum.add(x[i].multiply(BigInteger.valueOf((long) root.get(i) * squares.get(simple))));
            }
            BigInteger[] whole = sum.divideAndRemainder(BigInteger.valueOf(squares.get(root)));
            if (whole[1].signum() != 0) {
                throw new AssertionError("a pairing that is not whole");
            }
            return whole[0];
        }

        private BigInteger[] big(List<Long> x) {
            BigInteger[] row = new BigInteger[n];
            Arrays.setAll(row, i -> BigInteger.valueOf(x.get(i)));
            return row;
        }

        long level(List<Long> x) {
            return pairing(big(x), positive.get(positive.size() - 1)).longValueExact();
        }

        /** By Cramer's rule; null if a number of times is not whole. */
        List<BigInteger> asSimpleRoots(BigInteger[] x) {
            BigInteger[][] rows = new BigInteger[n][n];
            for (int i = 0; i < n; i++) {
                for (int j = 0; j < n; j++) {
                    rows[i][j] = BigInteger.valueOf(matrix[i][j]);
                }
            }
            BigInteger whole = determinant(rows);
            List<BigInteger> times = new ArrayList<>();
            for (int i = 0; i < n; i++) {
                BigInteger[][] changed = rows.clone();
                changed[i] = x;
                BigInteger[] part = determinant(changed).divideAndRemainder(whole);
                if (part[1].signum() != 0) {
                    return null;
                }
                times.add(part[0]);
            }
            return times;
        }

        private static BigInteger determinant(BigInteger[][] rows) {
            int size = rows.length;
            if (size == 0) {
                return BigInteger.ONE;
            }
            BigInteger sum = BigInteger.ZERO;
            for (int i = 0; i < size; i++) {
                BigInteger[][] less = new BigInteger[size - 1][];
                for (int k = 0; k < size - 1; k++) {
                    less[k] = Arrays.copyOfRange(rows[k < i ? k : k + 1], 1, size);
                }
                BigInteger term = rows[i][0].multiply(determinant(less));
                sum = i % 2 == 0 ? sum.add(term) : sum.subtract(term);
            }
            return sum;
        }

        long dimension(List<Long> highest) {
            BigInteger[] rho = big(Collections.nCopies(n, 1L));
            BigInteger upper = BigInteger.ONE;
            BigInteger lower = BigInteger.ONE;
            for (List<Integer> root : positive) {
                upper = upper.multiply(pairing(big(plus(highest, Collections.nCopies(n, 1L), 1)), root));
                lower = lower.multiply(pairing(rho, root));
            }
            return upper.divide(lower).longValueExact();
        }

        private List<Long> plus(List<Long> x, List<Long> y, long times) {
            List<Long> sum = new ArrayList<>();
            for (int i = 0; i < n; i++) {
                sum.add(x.get(i) + times * y.get(i));
            }
            return sum;
        }

        private long sign(int element) {
            return lengths.get(element) % 2 == 0 ? 1 : -1;
        }

        private List<Integer> elementsWithout(int mirror) {
            List<Integer> some = new ArrayList<>();
            for (int w = 0; w < elements.size(); w++) {
                if (!firstReduced.get(w).contains(mirror)) {
                    some.add(w);
                }
            }
            return some;
        }

        Map<List<Long>, Long> character(List<Long> highest) {
            Map<List<Long>, Long> found = characters.get(highest);
            if (found == null) {
                found = character(highest, -1);
                if (found.values().stream().mapToLong(c -> c).sum() != dimension(highest)) {
                    throw new AssertionError("the dimension is another one");
                }
                characters.put(highest, found);
            }
            return found;
        }

        /** Racah's recursion: the sum over all w of sign(w) times the multiplicity of x + rho - w rho is 0 or a sign. */
        private Map<List<Long>, Long> character(List<Long> highest, int without) {
            List<Long> rho = Collections.nCopies(n, 1L);
            List<Integer> group = elementsWithout(without);
            Map<List<Long>, Long> ends = new HashMap<>();
            for (int w : group) {
                ends.put(plus(image(elements.get(w), plus(highest, rho, 1)), rho, -1), sign(w));
            }
            Map<List<Long>, Long> found = new HashMap<>();
            Set<List<Long>> level = new HashSet<>(List.of(highest));
            while (!level.isEmpty()) {
                Set<List<Long>> next = new HashSet<>();
                for (List<Long> x : level) {
                    long count = ends.getOrDefault(x, 0L);
                    for (int w : group) {
                        List<Long> above = plus(plus(x, rho, 1), image(elements.get(w), rho), -1);
                        count -= w == 0 ? 0 : sign(w) * found.getOrDefault(above, 0L);
                    }
                    if (count != 0) {
                        found.put(x, count);
                        addLower(next, x, without);
                    }
                }
                level = next;
            }
            return found;
        }

        private void addLower(Set<List<Long>> next, List<Long> x, int without) {
            for (int i = 0; i < n; i++) {
                List<Long> lower = new ArrayList<>();
                for (int j = 0; j < n; j++) {
                    lower.add(x.get(j) - matrix[i][j]);
                }
                if (i != without) {
                    next.add(lower);
                }
            }
        }

        private Set<List<Long>> dominantSums(List<Long> one, List<Long> other) {
            Set<List<Long>> sums = new HashSet<>();
            for (List<Long> x : character(one).keySet()) {
                List<Long> sum = plus(x, other, 1);
                if (sum.stream().allMatch(c -> c >= 0)) {
                    sums.add(sum);
                }
            }
            return sums;
        }

        /** The number of times is the sum over all w of sign(w) times the multiplicity of w(part + rho) - other - rho. */
        Map<List<Long>, Long> splitProduct(List<Long> one, List<Long> other) {
            List<Long> rho = Collections.nCopies(n, 1L);
            Map<List<Long>, Long> found = new HashMap<>();
            for (List<Long> part : dominantSums(one, other)) {
                long count = 0;
                for (int w = 0; w < elements.size(); w++) {
                    List<Long> x = plus(plus(image(elements.get(w), plus(part, rho, 1)), other, -1), rho, -1);
                    count += sign(w) * character(one).getOrDefault(x, 0L);
                }
                found.put(part, count);
            }
            return found;
        }

        /**
         * As the product, but over the affine group, whose elements are those of the group and shifts by the lattice
         * of the long roots, as many times as the level and the dual number of Coxeter make.
         */
        Map<List<Long>, Long> splitAtLevel(List<Long> one, List<Long> other, int level) {
            List<Long> rho = Collections.nCopies(n, 1L);
            long size = level + level(rho) + 1;
            Map<List<Long>, Long> found = new HashMap<>();
            for (List<Long> part : dominantSums(one, other)) {
                if (level(part) > level) {
                    continue;
                }
                long count = 0;
                for (int w = 0; w < elements.size(); w++) {
                    List<Long> image = image(elements.get(w), plus(part, rho, 1));
                    for (Map.Entry<List<Long>, Long> x : character(one).entrySet()) {
                        List<Long> gap = plus(plus(plus(other, rho, 1), x.getKey(), 1), image, -1);
                        count += isShift(gap, size) ? sign(w) * x.getValue() : 0;
                    }
                }
                found.put(part, count);
            }
            return found;
        }

        private boolean isShift(List<Long> x, long size) {
            for (long c : x) {
                if (c % size != 0) {
                    return false;
                }
            }
            List<BigInteger> times = asSimpleRoots(big(x));
            if (times == null) {
                return false;
            }
            int longest = squares.get(positive.get(positive.size() - 1));
            for (int i = 0; i < n; i++) {
                List<Integer> simple = new ArrayList<>(Collections.nCopies(n, 0));
                simple.set(i, 1);
                long unit = size * longest / squares.get(simple);
                if (times.get(i).mod(BigInteger.valueOf(unit)).signum() != 0) {
                    return false;
                }
            }
            return true;
        }

        /** Takes away whole modules of the system without the mirror, the highest ones that are left first. */
        Map<List<Long>, Long> splitWithout(List<Long> highest, int mirror) {
            Map<List<Long>, Long> left = new HashMap<>(character(highest));
            Map<List<Long>, Long> found = new HashMap<>();
            while (!left.isEmpty()) {
                List<Long> top = Collections.max(left.keySet(), Comparator.comparing((List<Long> x) -> heightWithout(x, mirror)));
                long count = left.get(top);
                found.put(top, count);
                for (Map.Entry<List<Long>, Long> term : character(top, mirror).entrySet()) {
                    left.merge(term.getKey(), -count * term.getValue(), Long::sum);
                }
                left.values().removeIf(c -> c == 0);
            }
            return found;
        }

        private long heightWithout(List<Long> x, int mirror) {
            long height = 0;
            for (List<Integer> root : positive) {
                height += root.get(mirror) == 0 ? pairing(big(x), root).longValueExact() : 0;
            }
            return height;
        }
    }
}
