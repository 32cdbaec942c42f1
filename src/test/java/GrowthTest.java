import java.math.BigInteger;
import java.util.ArrayList;
import java.util.Arrays;
import java.util.HashMap;
import java.util.HashSet;
import java.util.List;
import java.util.Map;
import java.util.Random;
import java.util.Set;
import java.util.concurrent.Callable;

/** Weights that act and set in turn make greater and greater, against the same ones in whole numbers without a bound. */
public final class GrowthTest {
    private static final int CALLS = 512;
    private static final String UNSUPPORTED = "UnsupportedOperationException";

    private static int wrong = 0;
    private static int lower = 0;
    private static int mostBits = 0;

    private static String answer(Callable<Object> call) {
        try {
            return String.valueOf(call.call());
        } catch (Exception e) {
            return e.getClass().getSimpleName();
        }
    }

    private static void due(String call, Object want, Callable<Object> got) {
        String answer = answer(got);
        if (!answer.equals(String.valueOf(want))) {
            wrong++;
            System.out.println(call + " answered " + answer + ", due is " + want);
        }
    }

    public static void main(String[] args) {
        Model[] systems = {
            new Model('A', 1, new int[][] {{2}}, new int[] {2}),
            new Model('A', 2, new int[][] {{2, -1}, {-1, 2}}, new int[] {2, 2}),
            new Model('A', 3, new int[][] {{2, -1, 0}, {-1, 2, -1}, {0, -1, 2}}, new int[] {2, 2, 2}),
            new Model('A', 4, new int[][] {{2, -1, 0, 0}, {-1, 2, -1, 0}, {0, -1, 2, -1}, {0, 0, -1, 2}}, new int[] {2, 2, 2, 2}),
            new Model('B', 2, new int[][] {{2, -2}, {-1, 2}}, new int[] {4, 2}),
            new Model('B', 3, new int[][] {{2, -1, 0}, {-1, 2, -2}, {0, -1, 2}}, new int[] {4, 4, 2}),
            new Model('C', 3, new int[][] {{2, -1, 0}, {-1, 2, -1}, {0, -2, 2}}, new int[] {2, 2, 4}),
            new Model('D', 4, new int[][] {{2, -1, 0, 0}, {-1, 2, -1, -1}, {0, -1, 2, 0}, {0, -1, 0, 2}}, new int[] {2, 2, 2, 2}),
            new Model('G', 2, new int[][] {{2, -1}, {-3, 2}}, new int[] {2, 6}),
        };
        testDoubling(systems[8]);
        for (Model system : systems) {
            testFastest(system);
            for (int seed = 0; seed < 12; seed++) {
                testRandom(system, seed);
            }
        }
        testSmallAfterGreat();
        if (lower < 100) {
            tell("only " + lower + " weights were lower");
        }
        if (mostBits < 240) {
            tell("only " + mostBits + " bits were reached");
        }
        System.out.println(wrong == 0 ? "all answers are as due" : wrong + " answers are wrong");
        System.exit(wrong == 0 ? 0 : 1);
    }

    private static void tell(String text) {
        wrong++;
        System.out.println(text);
    }

    /** The weight is (8 * 2^k, 0): its low bits are all 0 soon. */
    private static void testDoubling(Model system) {
        for (int turns = 0; turns < 250; turns += turns < 70 ? 1 : 13) {
            for (int sign = -1; sign <= 1; sign += 2) {
                Run run = new Run(system);
                run.put(1);
                run.put(0);
                run.set(0, 0, 8 * sign);
                for (int k = 0; k < turns; k++) {
                    run.act(0);
                    run.set(0, 1, 0);
                }
                run.look(0);
            }
        }
    }

    /** One word and one coordinate set again and again, so that the weight grows as fast as it can. */
    private static void testFastest(Model system) {
        Map<Integer, List<Integer>> best = new HashMap<>();
        double[] rates = new double[system.n];
        for (List<Integer> word : system.words()) {
            for (int at = 0; at < system.n; at++) {
                double rate = system.rate(word, at);
                if (rate > rates[at]) {
                    rates[at] = rate;
                    best.put(at, word);
                }
            }
        }
        for (int at : best.keySet()) {
            for (int value = -9; value <= 9; value += 9) {
                Run run = new Run(system);
                for (int mirror : best.get(at)) {
                    run.put(mirror);
                }
                for (int i = 0; i < system.n; i++) {
                    run.set(0, i, 9 - i);
                }
                while (run.calls < CALLS - 30) {
                    run.act(0);
                    run.set(0, at, value);
                }
                run.look(0);
                mostBits = Math.max(mostBits, run.bits());
                growToTheEnd(system, best.get(at), at, value);
            }
        }
    }

    /** The last of 512 calls is the one that is looked at. */
    private static void growToTheEnd(Model system, List<Integer> word, int at, int value) {
        for (int last = 0; last < 4; last++) {
            Run run = new Run(system);
            for (int mirror : word) {
                run.put(mirror);
            }
            for (int i = 0; i < system.n; i++) {
                run.set(last % 2, i, 9 - i);
            }
            while (run.calls < CALLS - 2) {
                run.act(last % 2);
                run.set(last % 2, at, value);
            }
            if (run.calls < CALLS - 1) {
                run.act(last % 2);
            }
            if (last < 2) {
                run.isLower(0, 1);
            } else if (last == 2) {
                run.orbit(0);
            } else {
                run.raise(1);
            }
            due("calls", CALLS, () -> run.calls);
        }
    }

    private static void testRandom(Model system, int seed) {
        Random random = new Random(seed);
        Run run = new Run(system);
        for (int i = 0; i < system.n; i++) {
            run.set(0, i, random.nextInt(19) - 9);
            run.put(random.nextInt(system.n));
        }
        while (run.calls < CALLS - 8) {
            int register = random.nextInt(3) == 0 ? random.nextInt(4) : 0;
            int kind = random.nextInt(40);
            if (kind < 14) {
                run.act(register);
            } else if (kind < 26) {
                run.set(register, random.nextInt(system.n), random.nextInt(4) == 0 ? random.nextInt(19) - 9 : 0);
            } else if (kind < 30) {
                run.put(random.nextInt(system.n));
            } else if (kind == 30) {
                run.clear();
            } else if (kind < 34) {
                run.isLower(register, random.nextInt(4));
            } else if (kind < 36) {
                run.orbit(register);
            } else if (kind == 36) {
                run.raise(register);
            } else {
                run.lookAtSome(register, random);
            }
        }
    }

    /** A weight that was great and is small again is as any other one. */
    private static void testSmallAfterGreat() {
        Weightlattice x = new Weightlattice();
        x.choose('G', 2);
        x.put(1);
        x.put(0);
        x.set(0, 0, 8);
        for (int k = 0; k < 100; k++) {
            x.act(0);
            x.set(0, 1, 0);
        }
        due("dimension of a great one", UNSUPPORTED, () -> x.dimension(0));
        x.set(1, 0, 1);
        due("multiplicity of a great one", 0, () -> x.multiplicity(1, 0));
        due("multiplicity in a great one", UNSUPPORTED, () -> x.multiplicity(0, 1));
        due("dominant of a great one", UNSUPPORTED, () -> x.dominant(0));
        due("multiply by a great one", UNSUPPORTED, () -> x.multiply(1, 0));
        due("multiply of a great one", UNSUPPORTED, () -> x.multiply(0, 1));
        due("fuse by a great one", UNSUPPORTED, () -> x.fuse(1, 0, 50));
        due("fuse of a great one, level out of range", UNSUPPORTED, () -> x.fuse(0, 1, 51));
        due("branch of a great one", UNSUPPORTED, () -> x.branch(0, 0));
        due("ratio to a great one", UNSUPPORTED, () -> x.ratio(1, 0));
        due("ratio of a great one", UNSUPPORTED, () -> x.ratio(0, 1));
        due("isConsistent with a great one", true, () -> x.isConsistent());
        x.set(0, 0, 1);
        due("dimension of a small one", 7, () -> x.dimension(0));
        due("multiply of small ones", 4, () -> x.multiply(0, 1));
        due("isConsistent with a small one", true, () -> x.isConsistent());
        x.set(0, 0, 9);
        x.set(0, 1, 9);
        x.act(0);
        x.choose('G', 2);
        due("get after choose", "0 0", () -> x.get(0, 0) + " " + x.get(0, 1));
        due("orbit after choose", 1, () -> x.orbit(0));
    }

    /** A system in numbers without a bound: all is found by doing mirrors, and sums of simple roots by Cramer's rule. */
    private static final class Model {
        private final char type;
        private final int n;
        private final int[][] cartan;
        private final int[] squares;

        Model(char type, int n, int[][] cartan, int[] squares) {
            this.type = type;
            this.n = n;
            this.cartan = cartan;
            this.squares = squares;
        }

        List<BigInteger> mirror(List<BigInteger> x, int mirror) {
            List<BigInteger> image = new ArrayList<>();
            for (int j = 0; j < n; j++) {
                image.add(x.get(j).subtract(x.get(mirror).multiply(BigInteger.valueOf(cartan[mirror][j]))));
            }
            return image;
        }

        List<BigInteger> act(List<Integer> word, List<BigInteger> x) {
            List<BigInteger> image = x;
            for (int k = word.size() - 1; k >= 0; k--) {
                image = mirror(image, word.get(k));
            }
            return image;
        }

        /** How many mirrors each weight that mirrors make is away. */
        Map<List<BigInteger>, Integer> orbit(List<BigInteger> x) {
            Map<List<BigInteger>, Integer> away = new HashMap<>();
            List<List<BigInteger>> found = new ArrayList<>();
            away.put(x, 0);
            found.add(x);
            for (int k = 0; k < found.size(); k++) {
                for (int i = 0; i < n; i++) {
                    List<BigInteger> image = mirror(found.get(k), i);
                    if (!away.containsKey(image)) {
                        away.put(image, away.get(found.get(k)) + 1);
                        found.add(image);
                    }
                }
            }
            return away;
        }

        static boolean isDominant(List<BigInteger> x) {
            for (BigInteger coordinate : x) {
                if (coordinate.signum() < 0) {
                    return false;
                }
            }
            return true;
        }

        List<List<Integer>> words() {
            List<List<Integer>> words = new ArrayList<>();
            Set<List<BigInteger>> seen = new HashSet<>();
            List<BigInteger> rho = new ArrayList<>();
            for (int i = 0; i < n; i++) {
                rho.add(BigInteger.ONE);
            }
            words.add(new ArrayList<>());
            seen.add(rho);
            for (int k = 0; k < words.size(); k++) {
                for (int i = 0; i < n; i++) {
                    List<Integer> longer = new ArrayList<>(words.get(k));
                    longer.add(0, i);
                    if (seen.add(act(longer, rho))) {
                        words.add(longer);
                    }
                }
            }
            return words;
        }

        double rate(List<Integer> word, int at) {
            List<BigInteger> x = new ArrayList<>();
            for (int i = 0; i < n; i++) {
                x.add(BigInteger.valueOf(9 - i));
            }
            for (int k = 0; k < 24; k++) {
                x = new ArrayList<>(act(word, x));
                x.set(at, BigInteger.ZERO);
            }
            double most = 0;
            for (BigInteger coordinate : x) {
                most = Math.max(most, Math.abs(coordinate.doubleValue()));
            }
            return most;
        }

        boolean isSumOfSimple(BigInteger[] x) {
            BigInteger whole = determinant(columns(-1, x));
            for (int i = 0; i < n; i++) {
                BigInteger[] parts = determinant(columns(i, x)).divideAndRemainder(whole);
                if (parts[0].signum() < 0 || parts[1].signum() != 0) {
                    return false;
                }
            }
            return true;
        }

        private BigInteger[][] columns(int replaced, BigInteger[] x) {
            BigInteger[][] rows = new BigInteger[n][n];
            for (int i = 0; i < n; i++) {
                for (int j = 0; j < n; j++) {
                    rows[i][j] = i == replaced ? x[j] : BigInteger.valueOf(cartan[i][j]);
                }
            }
            return rows;
        }

        private static BigInteger determinant(BigInteger[][] rows) {
            if (rows.length == 0) {
                return BigInteger.ONE;
            }
            BigInteger sum = BigInteger.ZERO;
            for (int j = 0; j < rows.length; j++) {
                BigInteger[][] rest = new BigInteger[rows.length - 1][];
                for (int i = 1; i < rows.length; i++) {
                    List<BigInteger> row = new ArrayList<>(Arrays.asList(rows[i]));
                    row.remove(j);
                    rest[i - 1] = row.toArray(new BigInteger[0]);
                }
                BigInteger part = rows[0][j].multiply(determinant(rest));
                sum = j % 2 == 0 ? sum.add(part) : sum.subtract(part);
            }
            return sum;
        }
    }

    /** One object and what is due of it, call by call. */
    private static final class Run {
        private final Model system;
        private final Weightlattice x;
        private final List<List<BigInteger>> registers;
        private final List<Integer> word;
        private final StringBuilder told;
        private int calls;

        Run(Model system) {
            this.system = system;
            x = new Weightlattice();
            registers = new ArrayList<>();
            for (int r = 0; r < 4; r++) {
                List<BigInteger> zero = new ArrayList<>();
                for (int i = 0; i < system.n; i++) {
                    zero.add(BigInteger.ZERO);
                }
                registers.add(zero);
            }
            word = new ArrayList<>();
            told = new StringBuilder();
            x.choose(system.type, system.n);
            calls = 1;
        }

        private void check(String call, Object want, Callable<Object> got) {
            calls++;
            due(system.type + "" + system.n + " call " + calls + " " + call, want, got);
        }

        int bits() {
            int most = 0;
            for (List<BigInteger> weight : registers) {
                for (BigInteger coordinate : weight) {
                    most = Math.max(most, coordinate.bitLength());
                }
            }
            return most;
        }

        void put(int mirror) {
            if (word.size() < 40) {
                word.add(mirror);
                check("put", word.size(), () -> x.put(mirror));
            } else {
                clear();
            }
        }

        void clear() {
            check("clear", word.size(), () -> x.clear());
            word.clear();
        }

        void set(int register, int index, int value) {
            List<BigInteger> weight = new ArrayList<>(registers.get(register));
            check("set", weight.get(index).intValue(), () -> x.set(register, index, value));
            weight.set(index, BigInteger.valueOf(value));
            registers.set(register, weight);
        }

        void act(int register) {
            List<BigInteger> before = registers.get(register);
            List<BigInteger> after = system.act(word, before);
            int changed = 0;
            for (int i = 0; i < system.n; i++) {
                changed += before.get(i).equals(after.get(i)) ? 0 : 1;
            }
            check("act", changed, () -> x.act(register));
            registers.set(register, after);
        }

        void raise(int register) {
            for (Map.Entry<List<BigInteger>, Integer> image : system.orbit(registers.get(register)).entrySet()) {
                if (Model.isDominant(image.getKey())) {
                    check("raise", image.getValue(), () -> x.raise(register));
                    registers.set(register, image.getKey());
                    return;
                }
            }
            tell("no dominant weight");
        }

        void orbit(int register) {
            check("orbit", system.orbit(registers.get(register)).size(), () -> x.orbit(register));
        }

        void isLower(int one, int other) {
            BigInteger[] less = new BigInteger[system.n];
            for (int i = 0; i < system.n; i++) {
                less[i] = registers.get(other).get(i).subtract(registers.get(one).get(i));
            }
            boolean due = system.isSumOfSimple(less);
            lower += due && one != other ? 1 : 0;
            check("isLower", due, () -> x.isLower(one, other));
        }

        void pairing(int register, int root) {
            BigInteger sum = BigInteger.ZERO;
            for (int i = 0; i < system.n; i++) {
                BigInteger times = BigInteger.valueOf(x.coefficient(root, i) * system.squares[i]);
                sum = sum.add(registers.get(register).get(i).multiply(times));
            }
            BigInteger[] parts = sum.divideAndRemainder(BigInteger.valueOf(x.square(root)));
            calls += system.n + 1;
            check("pairing", parts[1].signum() == 0 ? parts[0].intValue() : "whole", () -> x.pairing(register, root));
        }

        void get(int register, int index) {
            check("get", registers.get(register).get(index).intValue(), () -> x.get(register, index));
        }

        private boolean isHighest(int register) {
            for (BigInteger coordinate : registers.get(register)) {
                if (coordinate.signum() < 0 || coordinate.compareTo(BigInteger.valueOf(30)) > 0) {
                    return false;
                }
            }
            return true;
        }

        private void refuse(int register) {
            if (!isHighest(register)) {
                check("dimension", UNSUPPORTED, () -> x.dimension(register));
                check("branch", UNSUPPORTED, () -> x.branch(register, 0));
                check("multiply", UNSUPPORTED, () -> x.multiply(3, register));
            }
        }

        void lookAtSome(int register, Random random) {
            int kind = random.nextInt(3);
            if (kind == 0) {
                get(register, random.nextInt(system.n));
            } else if (kind == 1) {
                pairing(register, random.nextInt(system.n));
            } else {
                refuse(register);
            }
        }

        /** Takes at most 29 calls; register 3 holds the weight 0. */
        void look(int register) {
            for (int i = 0; i < system.n; i++) {
                get(register, i);
            }
            pairing(register, system.n - 1);
            orbit(register);
            isLower(3, register);
            isLower(register, 3);
            refuse(register);
            check("multiplicity", isZero(register) ? 1 : 0, () -> x.multiplicity(3, register));
            check("isConsistent", true, () -> x.isConsistent());
            raise(register);
            refuse(register);
            isLower(3, register);
            isLower(register, 3);
            act(register);
        }

        private boolean isZero(int register) {
            for (BigInteger coordinate : registers.get(register)) {
                if (coordinate.signum() != 0) {
                    return false;
                }
            }
            return true;
        }
    }
}
