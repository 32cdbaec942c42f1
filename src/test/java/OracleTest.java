import java.math.BigInteger;
import java.util.ArrayList;
import java.util.Arrays;
import java.util.HashMap;
import java.util.List;
import java.util.Map;
import java.util.Random;
import java.util.TreeMap;

/**
 * Compares the class, in every system, with answers found in other ways: groups as matrices, orders by subwords,
 * polynomials by R-polynomials, multiplicities by Kostant's formula, fusion by Verlinde's formula, and so on.
 */
public final class OracleTest {
    private static int wrong = 0;

    private static void due(String call, Object got, Object want) {
        if (!got.equals(want)) {
            wrong++;
            System.out.println(call + " answered " + got + ", due is " + want);
        }
    }

    public static void main(String[] args) {
        Hall[] halls = {
            new Hall('A', 1, new int[][] {{2}}, new int[] {2}),
            new Hall('A', 2, new int[][] {{2, -1}, {-1, 2}}, new int[] {2, 2}),
            new Hall('A', 3, new int[][] {{2, -1, 0}, {-1, 2, -1}, {0, -1, 2}}, new int[] {2, 2, 2}),
            new Hall('A', 4, new int[][] {{2, -1, 0, 0}, {-1, 2, -1, 0}, {0, -1, 2, -1}, {0, 0, -1, 2}}, new int[] {2, 2, 2, 2}),
            new Hall('B', 2, new int[][] {{2, -2}, {-1, 2}}, new int[] {4, 2}),
            new Hall('B', 3, new int[][] {{2, -1, 0}, {-1, 2, -2}, {0, -1, 2}}, new int[] {4, 4, 2}),
            new Hall('C', 3, new int[][] {{2, -1, 0}, {-1, 2, -1}, {0, -2, 2}}, new int[] {2, 2, 4}),
            new Hall('D', 4, new int[][] {{2, -1, 0, 0}, {-1, 2, -1, -1}, {0, -1, 2, 0}, {0, -1, 0, 2}}, new int[] {2, 2, 2, 2}),
            new Hall('G', 2, new int[][] {{2, -1}, {-3, 2}}, new int[] {2, 6}),
        };
        for (Hall hall : halls) {
            testRoots(hall);
            testElements(hall);
            testOrder(hall);
            if (hall.group.size() <= 48) {
                testPolynomials(hall);
            }
            testWeights(hall);
            testModules(hall);
            testProducts(hall);
            testLargeProducts(hall);
            testFusion(hall);
            testFusionDirect(hall);
            testBranches(hall);
        }
        System.out.println(wrong == 0 ? "all answers are as due" : wrong + " answers are wrong");
        System.exit(wrong == 0 ? 0 : 1);
    }

    private static Weightlattice open(Hall hall) {
        Weightlattice x = new Weightlattice();
        x.choose(hall.type, hall.n);
        return x;
    }

    private static void load(Weightlattice x, int register, int[] weight) {
        for (int i = 0; i < weight.length; i++) {
            x.set(register, i, weight[i]);
        }
    }

    private static void testRoots(Hall hall) {
        Weightlattice x = new Weightlattice();
        due("choose " + hall, x.choose(hall.type, hall.n), hall.positive.size());
        for (int i = 0; i < hall.n; i++) {
            for (int j = 0; j < hall.n; j++) {
                due("matrix " + hall, x.matrix(i, j), hall.cartan[i][j]);
            }
        }
        int most = 0;
        for (int r = 0; r < hall.positive.size(); r++) {
            for (int i = 0; i < hall.n; i++) {
                due("coefficient " + hall + r + " " + i, x.coefficient(r, i), hall.positive.get(r)[i]);
            }
            due("square " + hall + r, x.square(r), hall.squareOf(hall.positive.get(r)));
            most = Math.max(most, Arrays.stream(hall.positive.get(r)).sum());
        }
        for (int h = 1; h <= most + 1; h++) {
            int sums = 0;
            int exponents = 0;
            for (int[] root : hall.positive) {
                sums += Arrays.stream(root).sum() == h ? 1 : 0;
            }
            for (int i = 0; i < hall.n; i++) {
                exponents += x.exponent(i) >= h ? 1 : 0;
                due("exponents ascend " + hall, i == 0 || x.exponent(i) >= x.exponent(i - 1), true);
            }
            due("exponents at least " + h + " " + hall, exponents, sums);
        }
        due("order " + hall, x.order(), (long) hall.group.size());
        due("meanLength " + hall, x.meanLength(), hall.positive.size() / 2f);
        due("type " + hall, x.type(), hall.type);
        due("isConsistent " + hall, x.isConsistent(), true);
    }

    private static void testElements(Hall hall) {
        Random random = new Random(1);
        for (int run = 0; run < 60; run++) {
            Weightlattice x = open(hall);
            int size = random.nextInt(41);
            int element = 0;
            for (int k = 0; k < size; k++) {
                int mirror = random.nextInt(hall.n);
                due("put " + hall, x.put(mirror), k + 1);
                element = hall.right[element][mirror];
            }
            due("length " + hall, x.length(), hall.lengths.get(element));
            List<Integer> reduced = hall.firstReduced(element);
            for (int k = 0; k < reduced.size(); k++) {
                due("reducedAt " + hall + k, x.reducedAt(k), reduced.get(k));
            }
            for (int i = 0; i < hall.n; i++) {
                int length = hall.lengths.get(element);
                due("goesDown ahead " + hall, x.goesDown(i, true), hall.lengths.get(hall.left[element][i]) < length);
                due("goesDown behind " + hall, x.goesDown(i, false), hall.lengths.get(hall.right[element][i]) < length);
            }
            int[] weight = new int[hall.n];
            for (int i = 0; i < hall.n; i++) {
                weight[i] = random.nextInt(19) - 9;
            }
            load(x, 1, weight);
            int[] image = hall.act(element, weight);
            int changed = 0;
            for (int i = 0; i < hall.n; i++) {
                changed += image[i] != weight[i] ? 1 : 0;
            }
            due("act " + hall, x.act(1), changed);
            for (int i = 0; i < hall.n; i++) {
                due("get after act " + hall, x.get(1, i), image[i]);
            }
            due("keep " + hall, x.keep(), 0);
            due("clear " + hall, x.clear(), size);
            due("keep again " + hall, x.keep(), hall.lengths.get(element));
        }
    }

    private static void putAll(Weightlattice x, List<Integer> word) {
        x.clear();
        for (int mirror : word) {
            x.put(mirror);
        }
    }

    private static void testOrder(Hall hall) {
        Random random = new Random(2);
        int size = hall.group.size();
        for (int run = 0; run < Math.min(size, 30); run++) {
            int w = size <= 30 ? run : random.nextInt(size);
            Weightlattice x = open(hall);
            putAll(x, hall.firstReduced(w));
            x.keep();
            boolean[] below = hall.below(w);
            for (int k = 0; k < Math.min(size, 30); k++) {
                int v = size <= 30 ? k : random.nextInt(size);
                putAll(x, hall.firstReduced(v));
                due("isBelow " + hall + v + " " + w, x.isBelow(), below[v]);
            }
        }
    }

    private static void testPolynomials(Hall hall) {
        int size = hall.group.size();
        Polys polys = new Polys(hall);
        for (int w = 0; w < size; w++) {
            boolean[] below = hall.below(w);
            for (int v = 0; v < size; v++) {
                Weightlattice x = open(hall);
                putAll(x, hall.firstReduced(w));
                x.keep();
                putAll(x, hall.firstReduced(v));
                for (int power = 0; power < 10; power++) {
                    String call = "polynomial " + hall + v + " " + w + " at " + power;
                    if (below[v]) {
                        long[] p = polys.get(v, w);
                        due(call, (long) x.polynomial(power), power < p.length ? p[power] : 0L);
                    } else {
                        boolean thrown = false;
                        try {
                            x.polynomial(power);
                        } catch (java.util.NoSuchElementException e) {
                            thrown = true;
                        }
                        due(call + " throws", thrown, true);
                    }
                }
            }
        }
    }

    private static void testWeights(Hall hall) {
        Random random = new Random(3);
        for (int run = 0; run < 150; run++) {
            Weightlattice x = open(hall);
            int bound = 1 + random.nextInt(9);
            int[] weight = new int[hall.n];
            int[] second = new int[hall.n];
            for (int i = 0; i < hall.n; i++) {
                weight[i] = random.nextInt(2 * bound + 1) - bound;
                second[i] = random.nextInt(3) == 0 ? random.nextInt(2 * bound + 1) - bound : weight[i];
            }
            load(x, 2, weight);
            load(x, 3, second);
            Map<String, Integer> orbit = hall.orbit(weight);
            due("orbit " + hall + Arrays.toString(weight), x.orbit(2), orbit.size());
            due("orbit changes nothing", x.get(2, 0), weight[0]);
            for (int r = 0; r < hall.positive.size(); r++) {
                due("pairing " + hall, x.pairing(2, r), hall.pairing(weight, hall.positive.get(r)));
            }
            due("isLower " + hall, x.isLower(2, 3), hall.isSum(hall.minus(second, weight)));
            due("isLower " + hall, x.isLower(3, 2), hall.isSum(hall.minus(weight, second)));
            int[] lower = weight.clone();
            int[] times = new int[hall.n];
            boolean sum = true;
            for (int i = 0; i < hall.n; i++) {
                times[i] = random.nextInt(5) - (run % 2);
                sum &= times[i] >= 0;
                for (int j = 0; j < hall.n; j++) {
                    lower[j] -= times[i] * hall.cartan[i][j];
                }
            }
            if (Arrays.stream(lower).allMatch(c -> c >= -9 && c <= 9)) {
                load(x, 1, lower);
                due("isLower by sums " + hall, x.isLower(1, 2), sum);
            }
            due("isLower of itself " + hall, x.isLower(2, 2), true);
            int[] top = hall.dominantOf(weight);
            due("raise " + hall + Arrays.toString(weight), x.raise(2), orbit.get(Arrays.toString(top)));
            for (int i = 0; i < hall.n; i++) {
                due("get after raise " + hall, x.get(2, i), top[i]);
            }
            due("orbit after raise " + hall, x.orbit(2), orbit.size());
            due("raise again " + hall, x.raise(2), 0);
        }
    }

    /** Dominant weights whose modules have dimensions up to the bound, with coordinates up to 9. */
    private static List<int[]> small(Hall hall, int bound) {
        List<int[]> found = new ArrayList<>();
        int all = (int) Math.pow(10, hall.n);
        for (int code = 0; code < all; code++) {
            int[] weight = new int[hall.n];
            int rest = code;
            for (int i = 0; i < hall.n; i++) {
                weight[i] = rest % 10;
                rest /= 10;
            }
            if (hall.dimension(weight).compareTo(BigInteger.valueOf(bound)) <= 0) {
                found.add(weight);
            }
        }
        return found;
    }

    private static void testModules(Hall hall) {
        Random random = new Random(4);
        for (int[] weight : small(hall, 300)) {
            Weightlattice x = open(hall);
            load(x, 0, weight);
            String name = hall + Arrays.toString(weight);
            Map<String, Integer> dominant = hall.dominantWeights(weight);
            due("dominant " + name, x.dominant(0), dominant.size());
            due("dimension " + name, BigInteger.valueOf(x.dimension(0)), hall.dimension(weight));
            due("isConsistent " + name, x.isConsistent(), true);
            int asked = 0;
            for (Map.Entry<String, Integer> entry : dominant.entrySet()) {
                int[] lower = parse(entry.getKey());
                if (asked++ > 12 || Arrays.stream(lower).anyMatch(c -> c > 9)) {
                    continue;
                }
                load(x, 1, lower);
                due("multiplicity " + name + entry.getKey(), x.multiplicity(0, 1), entry.getValue());
                x.clear();
                for (int k = 0; k < 5; k++) {
                    x.put(random.nextInt(hall.n));
                }
                x.act(1);
                due("multiplicity of an image " + name + entry.getKey(), x.multiplicity(0, 1), entry.getValue());
            }
            for (int k = 0; k < 5; k++) {
                int[] other = new int[hall.n];
                for (int i = 0; i < hall.n; i++) {
                    other[i] = random.nextInt(7) - 3;
                }
                load(x, 1, other);
                due("multiplicity " + name + Arrays.toString(other), x.multiplicity(0, 1),
                    dominant.getOrDefault(Arrays.toString(hall.dominantOf(other)), 0));
            }
        }
        for (int run = 0; run < 40; run++) {
            Weightlattice x = open(hall);
            int[] one = new int[hall.n];
            int[] other = new int[hall.n];
            for (int i = 0; i < hall.n; i++) {
                one[i] = random.nextInt(10);
                other[i] = random.nextInt(10);
            }
            load(x, 0, one);
            load(x, 3, other);
            due("dimension " + hall, BigInteger.valueOf(x.dimension(0)), hall.dimension(one));
            due("ratio " + hall, x.ratio(0, 3), hall.dimension(one).doubleValue() / hall.dimension(other).doubleValue());
        }
    }

    private static int[] parse(String text) {
        String[] parts = text.substring(1, text.length() - 1).split(", ");
        int[] weight = new int[parts.length];
        for (int i = 0; i < parts.length; i++) {
            weight[i] = Integer.parseInt(parts[i]);
        }
        return weight;
    }

    private static String answered(Weightlattice x, Hall hall, int parts) {
        StringBuilder text = new StringBuilder();
        for (int p = 0; p < parts; p++) {
            int[] weight = new int[hall.n];
            for (int i = 0; i < hall.n; i++) {
                weight[i] = x.partAt(p, i);
            }
            text.append(Arrays.toString(weight)).append('x').append(x.times(p)).append(' ');
        }
        return text.toString();
    }

    private static void compareParts(String call, Weightlattice x, Hall hall, int parts, Map<List<Integer>, Integer> want) {
        due(call + " parts", parts, want.size());
        if (parts * (hall.n + 1) > 480) {
            compareSome(call, x, hall, want);
            return;
        }
        StringBuilder text = new StringBuilder();
        for (Map.Entry<List<Integer>, Integer> entry : want.entrySet()) {
            text.append(entry.getKey()).append('x').append(entry.getValue()).append(' ');
        }
        due(call, answered(x, hall, parts), text.toString());
    }

    /** For splittings with more parts than one object has calls for. */
    private static void compareSome(String call, Weightlattice x, Hall hall, Map<List<Integer>, Integer> want) {
        int p = 0;
        for (Map.Entry<List<Integer>, Integer> entry : want.entrySet()) {
            if (p < 80) {
                due(call + " times " + p, x.times(p), entry.getValue());
                for (int i = 0; i < hall.n; i++) {
                    due(call + " part " + p, x.partAt(p, i), entry.getKey().get(i));
                }
            }
            p++;
        }
    }

    private static void testProducts(Hall hall) {
        Random random = new Random(5);
        List<int[]> ones = small(hall, 300);
        for (int run = 0; run < 60; run++) {
            int[] one = ones.get(random.nextInt(ones.size()));
            int[] other = new int[hall.n];
            int bound = 1 + random.nextInt(10);
            for (int i = 0; i < hall.n; i++) {
                other[i] = random.nextInt(bound);
            }
            Weightlattice x = open(hall);
            load(x, 1, one);
            load(x, 2, other);
            String name = hall + Arrays.toString(one) + Arrays.toString(other);
            compareParts("multiply " + name, x, hall, x.multiply(1, 2), hall.product(one, other));
        }
    }

    /** Lifts a register beyond 9 by mirrors, then multiplies and takes dimensions. */
    private static void testLargeProducts(Hall hall) {
        Random random = new Random(6);
        for (int run = 0; run < 60; run++) {
            Weightlattice x = open(hall);
            int[] one = new int[hall.n];
            one[random.nextInt(hall.n)] = 1;
            load(x, 0, one);
            int[] other = new int[hall.n];
            for (int i = 0; i < hall.n; i++) {
                other[i] = random.nextInt(19) - 9;
            }
            load(x, 1, other);
            for (int k = 0; k < 6; k++) {
                x.put(random.nextInt(hall.n));
            }
            x.act(1);
            int set = random.nextInt(hall.n);
            x.set(1, set, random.nextInt(10));
            x.raise(1);
            boolean modest = true;
            for (int i = 0; i < hall.n; i++) {
                other[i] = x.get(1, i);
                modest &= other[i] <= 30;
            }
            String name = hall + Arrays.toString(one) + Arrays.toString(other);
            if (modest) {
                due("dimension " + name, BigInteger.valueOf(x.dimension(1)), hall.dimension(other));
                compareParts("multiply " + name, x, hall, x.multiply(0, 1), hall.product(one, other));
            } else {
                boolean thrown = false;
                try {
                    x.dimension(1);
                } catch (UnsupportedOperationException e) {
                    thrown = true;
                }
                due("dimension throws " + name, thrown, true);
            }
        }
    }

    private static void testFusion(Hall hall) {
        Random random = new Random(7);
        int most = hall.n == 4 ? 3 : hall.n == 3 ? 4 : 6;
        for (int level = 0; level <= most; level++) {
            Verlinde verlinde = new Verlinde(hall, level);
            int size = verlinde.weights.size();
            for (int run = 0; run < Math.min(40, size * size); run++) {
                int[] one = verlinde.weights.get(random.nextInt(size));
                int[] other = verlinde.weights.get(random.nextInt(size));
                if (hall.dimension(one).longValue() > 300) {
                    continue;
                }
                Weightlattice x = open(hall);
                load(x, 0, one);
                load(x, 1, other);
                String name = hall + Arrays.toString(one) + Arrays.toString(other) + " at " + level;
                compareParts("fuse " + name, x, hall, x.fuse(0, 1, level), verlinde.product(one, other));
            }
        }
    }

    /** At levels too great for Verlinde's sums: by the affine group of a part, written out. */
    private static void testFusionDirect(Hall hall) {
        Random random = new Random(8);
        List<int[]> ones = small(hall, 300);
        int[] theta = hall.positive.get(hall.positive.size() - 1);
        for (int run = 0; run < 60; run++) {
            int[] one = ones.get(random.nextInt(ones.size()));
            int[] other = new int[hall.n];
            for (int i = 0; i < hall.n; i++) {
                other[i] = random.nextInt(1 + random.nextInt(10));
            }
            int least = Math.max(hall.pairing(one, theta), hall.pairing(other, theta));
            int level = least + random.nextInt(3);
            if (level > 50) {
                continue;
            }
            Weightlattice x = open(hall);
            load(x, 2, one);
            load(x, 0, other);
            String name = hall + Arrays.toString(one) + Arrays.toString(other) + " at " + level;
            compareParts("fuse " + name, x, hall, x.fuse(2, 0, level), hall.fused(one, other, level));
        }
    }

    private static void testBranches(Hall hall) {
        for (int[] weight : small(hall, 300)) {
            for (int mirror = 0; mirror < hall.n; mirror++) {
                Weightlattice x = open(hall);
                load(x, 3, weight);
                String name = hall + Arrays.toString(weight) + " without " + mirror;
                compareParts("branch " + name, x, hall, x.branch(3, mirror), hall.branched(weight, mirror));
            }
        }
    }

    /** A system found from its matrix by closures alone. */
    private static final class Hall {
        final char type;
        final int n;
        final int[][] cartan;
        final int[] squares;
        final List<int[]> positive = new ArrayList<>();
        final Map<String, Integer> rootSquares = new HashMap<>();
        final List<int[][]> group = new ArrayList<>();
        final List<Integer> lengths = new ArrayList<>();
        final int[][] left;
        final int[][] right;
        final Map<String, Integer> index = new HashMap<>();
        final Map<String, Long> partitions = new HashMap<>();
        final long[][] adjugate;
        long determinant;

        Hall(char type, int n, int[][] cartan, int[] squares) {
            this.type = type;
            this.n = n;
            this.cartan = cartan;
            this.squares = squares;
            findRoots();
            findGroup();
            left = new int[group.size()][n];
            right = new int[group.size()][n];
            for (int w = 0; w < group.size(); w++) {
                for (int s = 0; s < n; s++) {
                    left[w][s] = index.get(Arrays.deepToString(compose(mirror(s), group.get(w))));
                    right[w][s] = index.get(Arrays.deepToString(compose(group.get(w), mirror(s))));
                }
            }
            adjugate = new long[n][n];
            invert();
        }

        public String toString() {
            return type + "" + n + " ";
        }

        void findRoots() {
            List<int[]> roots = new ArrayList<>();
            for (int i = 0; i < n; i++) {
                int[] root = new int[n];
                root[i] = 1;
                roots.add(root);
                rootSquares.put(Arrays.toString(root), squares[i]);
            }
            for (int r = 0; r < roots.size(); r++) {
                for (int s = 0; s < n; s++) {
                    int[] image = roots.get(r).clone();
                    for (int i = 0; i < n; i++) {
                        image[s] -= roots.get(r)[i] * cartan[i][s];
                    }
                    if (!rootSquares.containsKey(Arrays.toString(image))) {
                        rootSquares.put(Arrays.toString(image), rootSquares.get(Arrays.toString(roots.get(r))));
                        roots.add(image);
                    }
                }
            }
            for (int[] root : roots) {
                if (Arrays.stream(root).allMatch(c -> c >= 0)) {
                    positive.add(root);
                }
            }
            positive.sort((a, b) -> {
                int sums = Arrays.stream(a).sum() - Arrays.stream(b).sum();
                return sums != 0 ? sums : Arrays.compare(b, a);
            });
        }

        int squareOf(int[] root) {
            return rootSquares.get(Arrays.toString(root));
        }

        int pairing(int[] weight, int[] root) {
            int sum = 0;
            for (int i = 0; i < n; i++) {
                sum += weight[i] * root[i] * squares[i];
            }
            int square = squareOf(root);
            if (sum % square != 0) {
                throw new IllegalStateException("not whole");
            }
            return sum / square;
        }

        int[] weightOf(int[] root) {
            int[] weight = new int[n];
            for (int i = 0; i < n; i++) {
                for (int j = 0; j < n; j++) {
                    weight[j] += root[i] * cartan[i][j];
                }
            }
            return weight;
        }

        int[][] mirror(int s) {
            int[][] m = new int[n][n];
            for (int i = 0; i < n; i++) {
                m[i][i] = 1;
            }
            for (int j = 0; j < n; j++) {
                m[s][j] -= cartan[s][j];
            }
            return m;
        }

        /** First the inner one, then the outer one; row i is what comes of the weight with a 1 at i alone. */
        int[][] compose(int[][] outer, int[][] inner) {
            int[][] m = new int[n][n];
            for (int i = 0; i < n; i++) {
                for (int k = 0; k < n; k++) {
                    for (int j = 0; j < n; j++) {
                        m[i][j] += inner[i][k] * outer[k][j];
                    }
                }
            }
            return m;
        }

        void findGroup() {
            int[][] one = new int[n][n];
            for (int i = 0; i < n; i++) {
                one[i][i] = 1;
            }
            group.add(one);
            lengths.add(0);
            index.put(Arrays.deepToString(one), 0);
            for (int w = 0; w < group.size(); w++) {
                for (int s = 0; s < n; s++) {
                    int[][] next = compose(mirror(s), group.get(w));
                    if (index.putIfAbsent(Arrays.deepToString(next), group.size()) == null) {
                        group.add(next);
                        lengths.add(lengths.get(w) + 1);
                    }
                }
            }
        }

        int[] act(int w, int[] weight) {
            int[] image = new int[n];
            for (int i = 0; i < n; i++) {
                for (int j = 0; j < n; j++) {
                    image[j] += weight[i] * group.get(w)[i][j];
                }
            }
            return image;
        }

        List<Integer> firstReduced(int w) {
            List<Integer> word = new ArrayList<>();
            int rest = w;
            while (lengths.get(rest) > 0) {
                for (int s = 0; s < n; s++) {
                    if (lengths.get(left[rest][s]) < lengths.get(rest)) {
                        word.add(s);
                        rest = left[rest][s];
                        break;
                    }
                }
            }
            return word;
        }

        boolean[] below(int w) {
            boolean[] below = new boolean[group.size()];
            below[0] = true;
            for (int s : firstReduced(w)) {
                boolean[] next = below.clone();
                for (int x = 0; x < below.length; x++) {
                    if (below[x]) {
                        next[right[x][s]] = true;
                    }
                }
                below = next;
            }
            return below;
        }

        int[] minus(int[] a, int[] b) {
            int[] c = new int[n];
            for (int i = 0; i < n; i++) {
                c[i] = a[i] - b[i];
            }
            return c;
        }

        int[] plus(int[] a, int[] b) {
            int[] c = new int[n];
            for (int i = 0; i < n; i++) {
                c[i] = a[i] + b[i];
            }
            return c;
        }

        int[] rho() {
            int[] rho = new int[n];
            Arrays.fill(rho, 1);
            return rho;
        }

        int[] reflect(int[] weight, int s) {
            int[] image = weight.clone();
            for (int j = 0; j < n; j++) {
                image[j] -= weight[s] * cartan[s][j];
            }
            return image;
        }

        /** The orbit, with the least numbers of mirrors from the weight. */
        Map<String, Integer> orbit(int[] weight) {
            Map<String, Integer> far = new HashMap<>();
            List<int[]> list = new ArrayList<>();
            far.put(Arrays.toString(weight), 0);
            list.add(weight);
            for (int k = 0; k < list.size(); k++) {
                for (int s = 0; s < n; s++) {
                    int[] image = reflect(list.get(k), s);
                    if (far.putIfAbsent(Arrays.toString(image), far.get(Arrays.toString(list.get(k))) + 1) == null) {
                        list.add(image);
                    }
                }
            }
            return far;
        }

        int[] dominantOf(int[] weight) {
            for (String key : orbit(weight).keySet()) {
                int[] image = parse(key);
                if (Arrays.stream(image).allMatch(c -> c >= 0)) {
                    return image;
                }
            }
            throw new IllegalStateException();
        }

        void invert() {
            determinant = determinant(cartan);
            for (int i = 0; i < n; i++) {
                for (int j = 0; j < n; j++) {
                    int[][] minor = new int[n - 1][n - 1];
                    for (int a = 0; a < n - 1; a++) {
                        for (int b = 0; b < n - 1; b++) {
                            minor[a][b] = cartan[a < i ? a : a + 1][b < j ? b : b + 1];
                        }
                    }
                    adjugate[j][i] = ((i + j) % 2 == 0 ? 1 : -1) * determinant(minor);
                }
            }
        }

        static long determinant(int[][] m) {
            if (m.length == 0) {
                return 1;
            }
            long sum = 0;
            for (int j = 0; j < m.length; j++) {
                int[][] minor = new int[m.length - 1][m.length - 1];
                for (int a = 1; a < m.length; a++) {
                    for (int b = 0; b < m.length - 1; b++) {
                        minor[a - 1][b] = m[a][b < j ? b : b + 1];
                    }
                }
                sum += (j % 2 == 0 ? 1 : -1) * m[0][j] * determinant(minor);
            }
            return sum;
        }

        /** The coefficients by simple roots, or null if they are not whole. */
        int[] bySimple(int[] weight) {
            int[] times = new int[n];
            for (int i = 0; i < n; i++) {
                long sum = 0;
                for (int j = 0; j < n; j++) {
                    sum += weight[j] * adjugate[j][i];
                }
                if (sum % determinant != 0) {
                    return null;
                }
                times[i] = (int) (sum / determinant);
            }
            return times;
        }

        boolean isSum(int[] weight) {
            int[] times = bySimple(weight);
            return times != null && Arrays.stream(times).allMatch(c -> c >= 0);
        }

        BigInteger dimension(int[] weight) {
            BigInteger upper = BigInteger.ONE;
            BigInteger lower = BigInteger.ONE;
            for (int[] root : positive) {
                upper = upper.multiply(BigInteger.valueOf(pairing(plus(weight, rho()), root)));
                lower = lower.multiply(BigInteger.valueOf(pairing(rho(), root)));
            }
            return upper.divide(lower);
        }

        /** In how many ways a sum of simple roots is one of positive roots without the simple root m. */
        long partitions(int[] times, int without) {
            return partitions(times, 0, without);
        }

        private long partitions(int[] times, int from, int without) {
            if (Arrays.stream(times).allMatch(c -> c == 0)) {
                return 1;
            }
            if (from == positive.size() || Arrays.stream(times).anyMatch(c -> c < 0)) {
                return 0;
            }
            String key = Arrays.toString(times) + from + " " + without;
            Long known = partitions.get(key);
            if (known != null) {
                return known;
            }
            long sum = partitions(times, from + 1, without);
            int[] root = positive.get(from);
            if (without < 0 || root[without] == 0) {
                sum += partitions(minus(times, root), from, without);
            }
            partitions.put(key, sum);
            return sum;
        }

        boolean isIn(int w, int without) {
            return without < 0 || !firstReduced(w).contains(without);
        }

        /** Kostant's formula, in the system without the simple root m, or in the whole one for -1. */
        int multiplicity(int[] highest, int[] weight, int without) {
            if (!isSum(minus(highest, weight))) {
                return 0;
            }
            long sum = 0;
            for (int w = 0; w < group.size(); w++) {
                if (!isIn(w, without)) {
                    continue;
                }
                int[] gap = minus(act(w, plus(highest, rho())), plus(weight, rho()));
                int[] times = bySimple(gap);
                if (times != null && Arrays.stream(times).allMatch(c -> c >= 0)) {
                    sum += (lengths.get(w) % 2 == 0 ? 1 : -1) * partitions(times, without);
                }
            }
            return (int) sum;
        }

        Map<String, Map<String, Integer>> knownDominants = new HashMap<>();

        Map<String, Integer> dominantWeights(int[] highest) {
            Map<String, Integer> known = knownDominants.get(Arrays.toString(highest));
            if (known != null) {
                return known;
            }
            Map<String, Integer> found = new HashMap<>();
            List<int[]> all = new ArrayList<>();
            Map<String, Boolean> seen = new HashMap<>();
            all.add(highest);
            seen.put(Arrays.toString(highest), true);
            for (int k = 0; k < all.size(); k++) {
                for (int s = 0; s < n; s++) {
                    int[] lower = minus(all.get(k), cartan[s]);
                    if (seen.containsKey(Arrays.toString(lower)) || !isSum(minus(highest, dominantOf(lower)))) {
                        continue;
                    }
                    seen.put(Arrays.toString(lower), true);
                    all.add(lower);
                }
            }
            for (int[] weight : all) {
                if (Arrays.stream(weight).allMatch(c -> c >= 0)) {
                    found.put(Arrays.toString(weight), multiplicity(highest, weight, -1));
                }
            }
            knownDominants.put(Arrays.toString(highest), found);
            return found;
        }

        Map<List<Integer>, Integer> allWeights(int[] highest) {
            Map<List<Integer>, Integer> all = ordered();
            for (Map.Entry<String, Integer> entry : dominantWeights(highest).entrySet()) {
                for (String image : orbit(parse(entry.getKey())).keySet()) {
                    all.put(list(parse(image)), entry.getValue());
                }
            }
            return all;
        }

        static Map<List<Integer>, Integer> ordered() {
            return new TreeMap<>((a, b) -> {
                for (int i = 0; i < a.size(); i++) {
                    if (!a.get(i).equals(b.get(i))) {
                        return b.get(i) - a.get(i);
                    }
                }
                return 0;
            });
        }

        static List<Integer> list(int[] row) {
            List<Integer> list = new ArrayList<>();
            for (int c : row) {
                list.add(c);
            }
            return list;
        }

        /** The sum over the group of sign(w) times the multiplicity of w(part + rho) - (other + rho). */
        Map<List<Integer>, Integer> product(int[] one, int[] other) {
            Map<List<Integer>, Integer> weights = allWeights(one);
            Map<List<Integer>, Integer> parts = ordered();
            BigInteger total = BigInteger.ZERO;
            for (List<Integer> weight : weights.keySet()) {
                int[] part = plus(other, weight.stream().mapToInt(c -> c).toArray());
                if (Arrays.stream(part).anyMatch(c -> c < 0)) {
                    continue;
                }
                int times = 0;
                for (int w = 0; w < group.size(); w++) {
                    int[] gap = minus(act(w, plus(part, rho())), plus(other, rho()));
                    times += (lengths.get(w) % 2 == 0 ? 1 : -1) * weights.getOrDefault(list(gap), 0);
                }
                if (times != 0) {
                    parts.put(list(part), times);
                    total = total.add(dimension(part).multiply(BigInteger.valueOf(times)));
                }
            }
            if (!total.equals(dimension(one).multiply(dimension(other)))) {
                throw new IllegalStateException("the oracle's product is off");
            }
            return parts;
        }

        /** As for a product, but over the affine group: with translations by (level + h) times long roots' images. */
        Map<List<Integer>, Integer> fused(int[] one, int[] other, int level) {
            int[] theta = positive.get(positive.size() - 1);
            int height = level + pairing(rho(), theta) + 1;
            Map<List<Integer>, Integer> product = product(one, other);
            Map<List<Integer>, Integer> parts = ordered();
            List<int[]> shifts = longShifts(height);
            for (List<Integer> key : allDominantUpTo(product, level)) {
                int[] part = key.stream().mapToInt(c -> c).toArray();
                int times = 0;
                for (int[] shift : shifts) {
                    for (int w = 0; w < group.size(); w++) {
                        int[] image = minus(plus(act(w, plus(part, rho())), shift), rho());
                        times += (lengths.get(w) % 2 == 0 ? 1 : -1) * product.getOrDefault(list(image), 0);
                    }
                }
                if (times != 0) {
                    parts.put(key, times);
                }
            }
            return parts;
        }

        List<List<Integer>> allDominantUpTo(Map<List<Integer>, Integer> product, int level) {
            List<List<Integer>> found = new ArrayList<>();
            int[] theta = positive.get(positive.size() - 1);
            for (List<Integer> key : product.keySet()) {
                if (pairing(key.stream().mapToInt(c -> c).toArray(), theta) <= level) {
                    found.add(key);
                }
            }
            return found;
        }

        /** Sums of up to three long roots, each times the height. */
        List<int[]> longShifts(int height) {
            int longest = squareOf(positive.get(positive.size() - 1));
            List<int[]> roots = new ArrayList<>();
            roots.add(new int[n]);
            for (int[] root : positive) {
                if (squareOf(root) == longest) {
                    roots.add(weightOf(root));
                    roots.add(minus(new int[n], weightOf(root)));
                }
            }
            Map<String, int[]> sums = new HashMap<>();
            for (int[] a : roots) {
                for (int[] b : roots) {
                    int[] sum = plus(a, b);
                    for (int i = 0; i < n; i++) {
                        sum[i] *= height;
                    }
                    sums.put(Arrays.toString(sum), sum);
                }
            }
            return new ArrayList<>(sums.values());
        }

        /** Takes away modules of the smaller system, from the top on. */
        Map<List<Integer>, Integer> branched(int[] highest, int mirror) {
            Map<List<Integer>, Integer> rest = allWeights(highest);
            List<int[]> order = new ArrayList<>();
            for (List<Integer> weight : rest.keySet()) {
                order.add(weight.stream().mapToInt(c -> c).toArray());
            }
            order.sort((a, b) -> Arrays.stream(bySimple(minus(highest, a))).sum() - Arrays.stream(bySimple(minus(highest, b))).sum());
            Map<List<Integer>, Integer> parts = ordered();
            for (int[] top : order) {
                int times = rest.get(list(top));
                if (times == 0) {
                    continue;
                }
                parts.put(list(top), times);
                for (int[] lower : order) {
                    int[] gap = bySimple(minus(top, lower));
                    if (gap[mirror] == 0 && Arrays.stream(gap).allMatch(c -> c >= 0)) {
                        rest.merge(list(lower), -times * smallMultiplicity(top, lower, mirror), Integer::sum);
                    }
                }
            }
            return parts;
        }

        Map<String, Integer> knownSmall = new HashMap<>();

        int smallMultiplicity(int[] top, int[] lower, int mirror) {
            int[] shape = top.clone();
            shape[mirror] = 0;
            String key = Arrays.toString(shape) + Arrays.toString(bySimple(minus(top, lower))) + mirror;
            Integer known = knownSmall.get(key);
            if (known == null) {
                known = multiplicity(top, lower, mirror);
                knownSmall.put(key, known);
            }
            return known;
        }
    }

    /** Polynomials of Kazhdan and Lusztig from R-polynomials. */
    private static final class Polys {
        final Hall hall;
        final long[][][] r;
        final long[][][] p;

        Polys(Hall hall) {
            this.hall = hall;
            r = new long[hall.group.size()][hall.group.size()][];
            p = new long[hall.group.size()][hall.group.size()][];
        }

        long[] r(int x, int w) {
            if (r[x][w] != null) {
                return r[x][w];
            }
            long[] sum = new long[12];
            if (x == w) {
                sum[0] = 1;
            } else if (hall.below(w)[x]) {
                int s = 0;
                while (hall.lengths.get(hall.right[w][s]) > hall.lengths.get(w)) {
                    s++;
                }
                int ws = hall.right[w][s];
                int xs = hall.right[x][s];
                if (hall.lengths.get(xs) < hall.lengths.get(x)) {
                    sum = r(xs, ws);
                } else {
                    long[] same = r(x, ws);
                    long[] other = r(xs, ws);
                    for (int k = 0; k < 11; k++) {
                        sum[k + 1] += same[k] + other[k];
                        sum[k] -= same[k];
                    }
                }
            }
            r[x][w] = sum;
            return sum;
        }

        long[] get(int x, int w) {
            if (p[x][w] != null) {
                return p[x][w];
            }
            long[] found = new long[12];
            if (x == w) {
                found[0] = 1;
            } else if (hall.below(w)[x]) {
                long[] sum = new long[24];
                for (int a = 0; a < hall.group.size(); a++) {
                    if (a == x || !hall.below(a)[x] || !hall.below(w)[a]) {
                        continue;
                    }
                    long[] one = r(x, a);
                    long[] other = get(a, w);
                    for (int i = 0; i < 12; i++) {
                        for (int j = 0; j < 12; j++) {
                            sum[i + j] += one[i] * other[j];
                        }
                    }
                }
                int gap = hall.lengths.get(w) - hall.lengths.get(x);
                for (int k = 0; k <= (gap - 1) / 2; k++) {
                    found[k] = -sum[k];
                }
            }
            p[x][w] = found;
            return found;
        }
    }

    /** Fusion by Verlinde's formula, from sums over the group. */
    private static final class Verlinde {
        final Hall hall;
        final List<int[]> weights = new ArrayList<>();
        final double[][] real;
        final double[][] imaginary;

        Verlinde(Hall hall, int level) {
            this.hall = hall;
            int[] theta = hall.positive.get(hall.positive.size() - 1);
            int all = (int) Math.pow(level + 1, hall.n);
            for (int code = 0; code < all; code++) {
                int[] weight = new int[hall.n];
                int rest = code;
                for (int i = 0; i < hall.n; i++) {
                    weight[i] = rest % (level + 1);
                    rest /= level + 1;
                }
                if (hall.pairing(weight, theta) <= level) {
                    weights.add(weight);
                }
            }
            int height = level + hall.pairing(hall.rho(), theta) + 1;
            int size = weights.size();
            real = new double[size][size];
            imaginary = new double[size][size];
            for (int a = 0; a < size; a++) {
                for (int b = 0; b < size; b++) {
                    fill(a, b, height, hall.squareOf(theta));
                }
            }
            scale();
        }

        /** The form on weights is such that the highest root has the square 2. */
        void fill(int a, int b, int height, int longest) {
            int[] one = hall.plus(weights.get(a), hall.rho());
            int[] other = hall.plus(weights.get(b), hall.rho());
            for (int w = 0; w < hall.group.size(); w++) {
                double angle = -2 * Math.PI * form(hall.act(w, one), other, longest) / height;
                int sign = hall.lengths.get(w) % 2 == 0 ? 1 : -1;
                real[a][b] += sign * Math.cos(angle);
                imaginary[a][b] += sign * Math.sin(angle);
            }
        }

        double form(int[] one, int[] other, int longest) {
            double sum = 0;
            for (int i = 0; i < hall.n; i++) {
                double times = 0;
                for (int j = 0; j < hall.n; j++) {
                    times += one[j] * (double) hall.adjugate[j][i] / hall.determinant;
                }
                sum += times * other[i] * hall.squares[i] / longest;
            }
            return sum;
        }

        void scale() {
            double sum = 0;
            for (int b = 0; b < weights.size(); b++) {
                sum += real[0][b] * real[0][b] + imaginary[0][b] * imaginary[0][b];
            }
            double root = Math.sqrt(sum);
            for (int a = 0; a < weights.size(); a++) {
                for (int b = 0; b < weights.size(); b++) {
                    real[a][b] /= root;
                    imaginary[a][b] /= root;
                }
            }
        }

        int indexOf(int[] weight) {
            for (int k = 0; k < weights.size(); k++) {
                if (Arrays.equals(weights.get(k), weight)) {
                    return k;
                }
            }
            throw new IllegalStateException();
        }

        Map<List<Integer>, Integer> product(int[] one, int[] other) {
            int a = indexOf(one);
            int b = indexOf(other);
            Map<List<Integer>, Integer> parts = Hall.ordered();
            for (int c = 0; c < weights.size(); c++) {
                double sum = 0;
                for (int s = 0; s < weights.size(); s++) {
                    double re = real[a][s] * real[b][s] - imaginary[a][s] * imaginary[b][s];
                    double im = real[a][s] * imaginary[b][s] + imaginary[a][s] * real[b][s];
                    double re2 = re * real[c][s] + im * imaginary[c][s];
                    double im2 = im * real[c][s] - re * imaginary[c][s];
                    double size = real[0][s] * real[0][s] + imaginary[0][s] * imaginary[0][s];
                    sum += (re2 * real[0][s] + im2 * imaginary[0][s]) / size;
                }
                int times = (int) Math.round(sum);
                if (Math.abs(sum - times) > 1e-6) {
                    throw new IllegalStateException("the oracle's fusion is off");
                }
                if (times != 0) {
                    parts.put(Hall.list(weights.get(c)), times);
                }
            }
            return parts;
        }
    }
}
