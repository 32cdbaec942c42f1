import java.math.BigInteger;
import java.util.ArrayList;
import java.util.Arrays;
import java.util.List;

/**
 * The sentences of the document that name a boundary, in its order, each with a test of its own. Those in the rows
 * "Throws", and the two rules on exceptions, are in RefusalsTest; coordinates beyond the machine's are in GrowthTest.
 */
public final class BoundariesTest {
    private static final String INDEX = "IndexOutOfBoundsException";
    private static final String ARGUMENT = "IllegalArgumentException";
    private static final String UNSUPPORTED = "UnsupportedOperationException";
    private static final String ARITHMETIC = "ArithmeticException";
    private static final int CALLS = 512;
    private static final int SYSTEMS = 9;
    private static final int A1 = 0;
    private static final int A2 = 1;
    private static final int A3 = 2;
    private static final int A4 = 3;
    private static final int B2 = 4;
    private static final int B3 = 5;
    private static final int C3 = 6;
    private static final int D4 = 7;
    private static final int G2 = 8;
    private static final char[] TYPES = {'A', 'A', 'A', 'A', 'B', 'B', 'C', 'D', 'G'};
    private static final int[] RANKS = {1, 2, 3, 4, 2, 3, 3, 4, 2};
    private static final int[] ROOTS = {1, 3, 6, 10, 4, 9, 9, 12, 6};
    private static final long[] ORDERS = {2, 6, 24, 120, 8, 48, 48, 192, 12};
    private static final String[] MATRICES = {
        "2",
        "2 -1 / -1 2",
        "2 -1 0 / -1 2 -1 / 0 -1 2",
        "2 -1 0 0 / -1 2 -1 0 / 0 -1 2 -1 / 0 0 -1 2",
        "2 -2 / -1 2",
        "2 -1 0 / -1 2 -2 / 0 -1 2",
        "2 -1 0 / -1 2 -1 / 0 -2 2",
        "2 -1 0 0 / -1 2 -1 -1 / 0 -1 2 0 / 0 -1 0 2",
        "2 -1 / -3 2",
    };
    private static final String[] COEFFICIENTS = {
        "1",
        "10 01 11",
        "100 010 001 110 011 111",
        "1000 0100 0010 0001 1100 0110 0011 1110 0111 1111",
        "10 01 11 12",
        "100 010 001 110 011 111 012 112 122",
        "100 010 001 110 011 111 021 121 221",
        "1000 0100 0010 0001 1100 0110 0101 1110 1101 0111 1111 1211",
        "10 01 11 21 31 32",
    };
    private static final String[] SQUARES = {
        "2", "222", "222222", "2222222222", "4224", "442422444", "224222424", "222222222222", "262266",
    };

    private static final String[] EXPONENTS = {"1", "12", "123", "1234", "13", "135", "135", "1335", "15"};

    private interface Call {
        Object on(Weightlattice x);
    }

    private static int wrong = 0;
    private static String sentence = "";

    public static void main(String[] args) {
        hall();
        systems();
        matrices();
        weights();
        roots();
        lengthsOfRoots();
        group();
        order();
        modules();
        thirty();
        splittings();
        levels();
        withoutMirror();
        newObject();
        chooseAgain();
        exponents();
        words();
        firstWords();
        goesDown();
        keep();
        polynomials();
        registers();
        act();
        raise();
        orbit();
        isLower();
        dimension();
        dominant();
        products();
        parts();
        figures();
        isConsistent();
        System.out.println(wrong == 0 ? "all answers are as due" : wrong + " answers are wrong");
        System.exit(wrong == 0 ? 0 : 1);
    }

    private static String answer(Call call, Weightlattice x) {
        try {
            return String.valueOf(call.on(x));
        } catch (RuntimeException e) {
            return e.getClass().getSimpleName();
        }
    }

    private static void due(Object want, Weightlattice x, Call call) {
        String answer = answer(call, x);
        if (!answer.equals(String.valueOf(want))) {
            wrong++;
            System.out.println("\"" + sentence + "\": answered " + answer + ", due is " + want + ", in " + x.type());
        }
    }

    private static Weightlattice open(int system) {
        Weightlattice x = new Weightlattice();
        x.choose(TYPES[system], RANKS[system]);
        return x;
    }

    private static Weightlattice load(Weightlattice x, int register, int... weight) {
        for (int i = 0; i < weight.length; i++) {
            x.set(register, i, weight[i]);
        }
        return x;
    }

    private static Weightlattice word(Weightlattice x, int... mirrors) {
        x.clear();
        for (int mirror : mirrors) {
            x.put(mirror);
        }
        return x;
    }

    /** A coordinate beyond 9, which mirrors of a neighbour make; all others are 0, and the word is empty. */
    private static Weightlattice great(int system, int register, int place, int value) {
        Weightlattice x = open(system);
        int neighbour = 0;
        while (neighbour == place || x.matrix(neighbour, place) == 0) {
            neighbour++;
        }
        int step = -x.matrix(neighbour, place);
        int reached = value % step;
        x.set(register, place, reached);
        word(x, neighbour);
        while (reached < value) {
            int add = Math.min(9, (value - reached) / step);
            x.set(register, neighbour, add);
            x.act(register);
            reached += add * step;
            for (int i = 0; i < RANKS[system]; i++) {
                if (i != place) {
                    x.set(register, i, 0);
                }
            }
        }
        x.clear();
        return x;
    }

    private static int[] only(int system, int place, int value) {
        int[] weight = new int[RANKS[system]];
        weight[place] = value;
        return weight;
    }

    private static int[] all(int system, int value) {
        int[] weight = new int[RANKS[system]];
        Arrays.fill(weight, value);
        return weight;
    }

    /** A word of a longest element: a mirror is put behind as long as it makes the element longer. */
    private static Weightlattice longest(Weightlattice x, int system) {
        x.clear();
        for (int k = 0; k < ROOTS[system]; k++) {
            int mirror = 0;
            while (x.goesDown(mirror, false)) {
                mirror++;
            }
            x.put(mirror);
        }
        return x;
    }

    private static String weightIn(Weightlattice x, int register, int n) {
        StringBuilder text = new StringBuilder();
        for (int i = 0; i < n; i++) {
            text.append(i == 0 ? "" : " ").append(x.get(register, i));
        }
        return text.toString();
    }

    private static String reduced(Weightlattice x) {
        StringBuilder text = new StringBuilder();
        for (int k = 0; k < x.length(); k++) {
            text.append(x.reducedAt(k));
        }
        return text.toString();
    }

    private static String split(Weightlattice x, int count, int n) {
        StringBuilder text = new StringBuilder();
        for (int p = 0; p < count; p++) {
            text.append(p == 0 ? "" : ", ").append(x.times(p)).append(" x");
            for (int i = 0; i < n; i++) {
                text.append(' ').append(x.partAt(p, i));
            }
        }
        return text.toString();
    }

    private static String matrix(Weightlattice x, int n) {
        StringBuilder text = new StringBuilder();
        for (int i = 0; i < n; i++) {
            for (int j = 0; j < n; j++) {
                text.append(j == 0 ? (i == 0 ? "" : " / ") : " ").append(x.matrix(i, j));
            }
        }
        return text.toString();
    }

    private static String coefficients(Weightlattice x, int system) {
        StringBuilder text = new StringBuilder();
        for (int r = 0; r < ROOTS[system]; r++) {
            text.append(r == 0 ? "" : " ");
            for (int i = 0; i < RANKS[system]; i++) {
                text.append(x.coefficient(r, i));
            }
        }
        return text.toString();
    }

    private static String squares(Weightlattice x, int count) {
        StringBuilder text = new StringBuilder();
        for (int r = 0; r < count; r++) {
            text.append(x.square(r));
        }
        return text.toString();
    }

    private static String exponents(Weightlattice x, int n) {
        StringBuilder text = new StringBuilder();
        for (int i = 0; i < n; i++) {
            text.append(x.exponent(i));
        }
        return text.toString();
    }

    // ---- what the document says ahead of its terms

    private static void hall() {
        sentence = "An object is used for at most 512 calls after it has been made";
        Call[] last = {
            x -> x.choose('G', 2), x -> x.matrix(1, 2), x -> x.coefficient(8, 2), x -> x.square(8), x -> x.exponent(2),
            x -> x.order(), x -> x.put(2), x -> x.clear(), x -> x.length(), x -> x.reducedAt(2), x -> x.goesDown(0, true),
            x -> x.keep(), x -> x.isBelow(), x -> x.polynomial(1), x -> x.set(0, 0, 3), x -> x.get(0, 2), x -> x.act(0),
            x -> x.raise(3), x -> x.orbit(3), x -> x.pairing(3, 8), x -> x.isLower(2, 0), x -> x.dimension(0),
            x -> x.multiplicity(0, 2), x -> x.dominant(0), x -> x.multiply(0, 2), x -> x.fuse(0, 2, 4), x -> x.branch(0, 1),
            x -> x.partAt(1, 2), x -> x.times(1), x -> x.meanLength(), x -> x.ratio(0, 2), x -> x.type(),
            x -> x.isConsistent(), x -> x.put(3), x -> x.dimension(3),
        };
        for (Call call : last) {
            due(answer(call, worn(60)), worn(CALLS - 1), call);
        }
        sentence = "what later calls answer is free, but they come to an end";
        Weightlattice x = worn(CALLS);
        for (int k = 0; k < 2000; k++) {
            x.act(0);
            x.set(0, k % 3, 9);
            x.put(k % 3);
            x.clear();
        }
        for (Call call : last) {
            String answer = answer(call, x);
            due(false, x, y -> answer.startsWith("Array") || answer.startsWith("Null") || answer.startsWith("Negative"));
        }
    }

    /** B3 after so many calls, always in the same state but for register 1. */
    private static Weightlattice worn(int calls) {
        Weightlattice x = open(B3);
        load(x, 0, 1, 0, 1);
        load(x, 2, 0, 0, 1);
        load(x, 3, -1, 2, -3);
        word(x, 0, 1, 2, 1, 0);
        x.keep();
        word(x, 0, 1, 0);
        x.multiply(2, 2);
        int made = 1 + 9 + 6 + 1 + 4 + 1;
        for (; made + 5 <= calls; made += 5) {
            x.set(1, 0, 5);
            x.act(1);
            x.raise(1);
            x.isConsistent();
            x.set(1, 0, 0);
        }
        for (; made < calls; made++) {
            x.order();
        }
        return x;
    }

    // ---- terms

    private static void systems() {
        sentence = "A of the ranks 1 to 4, B of 2 and 3, C of 3, D of 4, G of 2";
        for (int s = 0; s < SYSTEMS; s++) {
            int system = s;
            due(ROOTS[s], new Weightlattice(), x -> x.choose(TYPES[system], RANKS[system]));
        }
        int[] least = {1, 2, 3, 4, 2};
        int[] most = {4, 3, 3, 4, 2};
        for (int t = 0; t < least.length; t++) {
            char type = "ABCDG".charAt(t);
            int below = least[t] - 1;
            int above = most[t] + 1;
            due(ARGUMENT, new Weightlattice(), x -> x.choose(type, below));
            due(ARGUMENT, new Weightlattice(), x -> x.choose(type, above));
        }
        sentence = "Its simple roots, and its mirrors, are numbered from 0 to n - 1.";
        for (int s = 0; s < SYSTEMS; s++) {
            int n = RANKS[s];
            for (int i = 0; i < n; i++) {
                int mirror = i;
                due(2, open(s), x -> x.matrix(mirror, mirror));
                due(1, open(s), x -> x.coefficient(mirror, mirror));
                due(i, word(open(s), i), x -> x.reducedAt(0));
            }
            due(INDEX, open(s), x -> x.put(n));
            due(INDEX, open(s), x -> x.put(-1));
        }
    }

    private static void matrices() {
        sentence = "Its matrix has 2 for a root with itself; for two that are neighbours, -1, but for these ...; otherwise it has 0.";
        Weightlattice again = new Weightlattice();
        for (int s = 0; s < SYSTEMS; s++) {
            int n = RANKS[s];
            due(MATRICES[s], open(s), x -> matrix(x, n));
        }
        for (int s = SYSTEMS - 1; s >= 0; s--) {
            int n = RANKS[s];
            again.choose(TYPES[s], n);
            due(MATRICES[s], again, x -> matrix(x, n));
        }
        sentence = "The matrix for i with j tells the coordinate j of the simple root i as a weight.";
        for (int s = 0; s < SYSTEMS; s++) {
            int n = RANKS[s];
            for (int i = 0; i < n; i++) {
                int mirror = i;
                Weightlattice x = word(open(s), i);
                StringBuilder turned = new StringBuilder();
                for (int j = 0; j < n; j++) {
                    x.set(0, j, x.matrix(i, j));
                    turned.append(j == 0 ? "" : " ").append(-x.matrix(i, j));
                }
                due(true, x, y -> y.isLower(1, 0));
                due(2, x, y -> y.pairing(0, mirror));
                x.act(0);
                due(turned.toString(), x, y -> weightIn(y, 0, n));
            }
        }
    }

    private static void weights() {
        sentence = "it is dominant if none is less than 0";
        for (int s = 0; s < SYSTEMS; s++) {
            due(1, open(s), x -> x.dimension(0));
            due(0, open(s), x -> x.raise(0));
            for (int i = 0; i < RANKS[s]; i++) {
                due(false, load(open(s), 0, only(s, i, 1)), x -> answer(y -> y.dimension(0), x).equals(UNSUPPORTED));
                due(UNSUPPORTED, load(open(s), 0, only(s, i, -1)), x -> x.dimension(0));
                due(0, load(open(s), 0, only(s, i, 1)), x -> x.raise(0));
                due(false, load(open(s), 0, only(s, i, -1)), x -> x.raise(0) == 0);
            }
        }
        sentence = "The mirror i takes from a weight its coordinate i times the simple root i, as a weight.";
        for (int s = 0; s < SYSTEMS; s++) {
            int n = RANKS[s];
            for (int i = 0; i < n; i++) {
                for (int value : new int[] {-9, -1, 0, 1, 9}) {
                    int[] weight = all(s, 2);
                    weight[i] = value;
                    Weightlattice x = word(load(open(s), 3, weight), i);
                    StringBuilder image = new StringBuilder();
                    for (int j = 0; j < n; j++) {
                        image.append(j == 0 ? "" : " ").append(weight[j] - value * x.matrix(i, j));
                    }
                    x.act(3);
                    due(image.toString(), x, y -> weightIn(y, 3, n));
                }
            }
        }
    }

    private static void roots() {
        sentence = "Positive roots are numbered from 0, by the sums of their coefficients, the lesser ones first, then by their coefficients";
        for (int s = 0; s < SYSTEMS; s++) {
            int system = s;
            due(COEFFICIENTS[s], open(s), x -> coefficients(x, system));
            due(INDEX, open(s), x -> x.coefficient(-1, 0));
            due(INDEX, open(s), x -> x.coefficient(ROOTS[system], 0));
        }
        sentence = "coefficients that are all at least 0, which makes it positive";
        for (int s = 0; s < SYSTEMS; s++) {
            Weightlattice x = open(s);
            for (int r = 0; r < ROOTS[s]; r++) {
                int sum = 0;
                int least = 0;
                for (int i = 0; i < RANKS[s]; i++) {
                    sum += x.coefficient(r, i);
                    least = Math.min(least, x.coefficient(r, i));
                }
                boolean positive = sum > 0 && least == 0;
                due(true, x, y -> positive);
            }
        }
        sentence = "The highest root is the one with the greatest sum.";
        String[] pairings = {"1", "1 1", "1 1 1", "1 1 1 1", "1 1", "1 2 1", "1 1 1", "1 2 1 1", "1 2"};
        for (int s = 0; s < SYSTEMS; s++) {
            StringBuilder text = new StringBuilder();
            for (int i = 0; i < RANKS[s]; i++) {
                Weightlattice x = load(open(s), 0, only(s, i, 1));
                text.append(i == 0 ? "" : " ").append(x.pairing(0, ROOTS[s] - 1));
                int level = x.pairing(0, ROOTS[s] - 1);
                due(ARGUMENT, x, y -> y.fuse(1, 0, level - 1));
                due(1, x, y -> y.fuse(1, 0, level));
            }
            due(pairings[s], open(s), x -> text);
        }
    }

    private static void lengthsOfRoots() {
        sentence = "The square of a root is 2, 4 or 6: 2 for the shortest ones, 4 for others in B and C, 6 for others in G; all in A and D have 2.";
        for (int s = 0; s < SYSTEMS; s++) {
            int count = ROOTS[s];
            due(SQUARES[s], open(s), x -> squares(x, count));
        }
        sentence = "divided by the square of the root; it is whole";
        for (int s = 0; s < SYSTEMS; s++) {
            for (int k = 0; k < 12; k++) {
                int[] weight = new int[RANKS[s]];
                for (int i = 0; i < weight.length; i++) {
                    weight[i] = (k * 7 + i * 5 + k * i * 3) % 19 - 9;
                }
                Weightlattice x = load(open(s), 1, weight);
                for (int r = 0; r < ROOTS[s]; r++) {
                    int root = r;
                    int sum = 0;
                    for (int i = 0; i < weight.length; i++) {
                        sum += weight[i] * x.coefficient(r, i) * x.square(i);
                    }
                    int over = sum;
                    due(0, x, y -> over % y.square(root));
                    due(over / x.square(r), x, y -> y.pairing(1, root));
                }
            }
        }
    }

    private static void group() {
        sentence = "its element does the last one first";
        due("-1 2", word(load(open(B2), 0, 1, 0), 0, 1), x -> acted(x, 0, 2));
        due("1 -2", word(load(open(B2), 0, 1, 0), 1, 0), x -> acted(x, 0, 2));
        sentence = "The length of an element is the least number of mirrors in a word of it";
        for (int s = 0; s < SYSTEMS; s++) {
            int most = ROOTS[s];
            due(0, open(s), Weightlattice::length);
            due(0, word(open(s), 0, 0), Weightlattice::length);
            due(most, longest(open(s), s), Weightlattice::length);
            for (int i = 0; i < RANKS[s]; i++) {
                int mirror = i;
                due(1, word(open(s), i), Weightlattice::length);
                due(1, word(open(s), i, i, i), Weightlattice::length);
                due(most - 1, longest(open(s), s), x -> lengthBehind(x, mirror));
            }
        }
        int[] lengths = {0, 2, 4, 0, 0, 4, 4, 8, 4};
        for (int s = 0; s < SYSTEMS; s++) {
            int n = RANKS[s];
            Weightlattice x = open(s);
            for (int k = 0; k < 40; k++) {
                x.put(k % n);
            }
            due(lengths[s], x, Weightlattice::length);
            due(40, x, Weightlattice::clear);
        }
        sentence = "a word is reduced if it has as many";
        due("01", word(open(A2), 0, 1, 0, 0), BoundariesTest::reduced);
        due("", word(open(A2), 0, 1, 0, 1, 0, 1), BoundariesTest::reduced);
        due(INDEX, word(open(A2), 0, 1, 0, 0), x -> x.reducedAt(2));
    }

    private static int lengthBehind(Weightlattice x, int mirror) {
        x.put(mirror);
        return x.length();
    }

    private static String acted(Weightlattice x, int register, int n) {
        x.act(register);
        return weightIn(x, register, n);
    }

    private static void order() {
        sentence = "some word that comes of a reduced word of w by leaving mirrors out, or none, is one of x";
        for (int s = 0; s < SYSTEMS; s++) {
            int n = RANKS[s];
            Weightlattice x = open(s);
            for (int i = 0; i < n; i++) {
                x.put(i);
            }
            x.keep();
            for (int left = 0; left < 1 << n; left++) {
                x.clear();
                for (int i = 0; i < n; i++) {
                    if ((left >> i) % 2 == 1) {
                        x.put(i);
                    }
                }
                due(true, x, Weightlattice::isBelow);
            }
            if (n > 1) {
                due(false, word(x, 1, 0), Weightlattice::isBelow);
                due(false, word(x, 0, 1, 0), Weightlattice::isBelow);
            }
        }
        sentence = "by leaving mirrors out of a reduced word, not of any word";
        due(false, kept(open(A2), 0, 1, 1), x -> word(x, 1).isBelow());
        due(true, kept(open(A2), 0, 1, 1), x -> word(x, 0).isBelow());
        sentence = "each one is below itself";
        for (int s = 0; s < SYSTEMS; s++) {
            due(true, open(s), Weightlattice::isBelow);
            Weightlattice x = longest(open(s), s);
            x.keep();
            due(true, x, Weightlattice::isBelow);
            due(true, x, y -> word(y, 0).isBelow());
            x.clear();
            due(true, x, Weightlattice::isBelow);
            x.keep();
            due(true, x, Weightlattice::isBelow);
            due(false, x, y -> word(y, 0).isBelow());
        }
        due(true, kept(open(A2), 0, 1, 0), x -> word(x, 1, 0, 1).isBelow());
        due(true, kept(open(D4), 0, 2, 3), x -> word(x, 3, 0, 2).isBelow());
        sentence = "its coefficients are told from that of the power 0 on";
        String[] told = {"1 0 0 0 0 0 0 0 0 0", "1 1 0 0 0 0 0 0 0 0"};
        due(told[1], kept(open(A3), 1, 0, 2, 1), x -> coefficientsOf(word(x, 1)));
        due(told[0], kept(open(A3), 1, 0, 2, 1), x -> coefficientsOf(word(x, 1, 2, 0, 1)));
        due(told[0], open(B3), BoundariesTest::coefficientsOf);
    }

    private static Weightlattice kept(Weightlattice x, int... mirrors) {
        word(x, mirrors);
        x.keep();
        return x;
    }

    private static String coefficientsOf(Weightlattice x) {
        StringBuilder text = new StringBuilder();
        for (int power = 0; power <= 9; power++) {
            text.append(power == 0 ? "" : " ").append(x.polynomial(power));
        }
        return text.toString();
    }

    private static void modules() {
        sentence = "which has weights with multiplicities, at least 1, alike for weights that mirrors bring into each other; others have 0";
        for (int s = 0; s < SYSTEMS; s++) {
            int n = RANKS[s];
            for (int i = 0; i < n; i++) {
                Weightlattice x = load(open(s), 0, only(s, i, 1));
                due(1, x, y -> y.multiplicity(0, 0));
                load(x, 1, only(s, i, 1));
                for (int k = 0; k < 8; k++) {
                    word(x, k * k % n, k % n).act(1);
                    due(1, x, y -> y.multiplicity(0, 1));
                }
                load(x, 1, only(s, i, 1));
                for (int j = 0; j < n; j++) {
                    x.set(1, j, x.get(1, j) + x.matrix(i, j));
                }
                due(0, x, y -> y.multiplicity(0, 1));
                due(0, x, y -> y.multiplicity(2, 0));
                due(1, x, y -> y.multiplicity(2, 2));
            }
        }
        sentence = "Its dimension is the sum of all its multiplicities.";
        int sum = 0;
        int none = 0;
        for (int a = -9; a <= 9; a++) {
            Weightlattice x = load(open(G2), 0, 1, 1);
            for (int b = -9; b <= 9; b++) {
                int times = load(x, 1, a, b).multiplicity(0, 1);
                sum += times;
                none += times == 0 ? 1 : 0;
            }
        }
        int whole = sum;
        int zeros = none;
        due(64, open(G2), x -> whole);
        due(64, load(open(G2), 0, 1, 1), x -> x.dimension(0));
        due(19 * 19 - 12 - 6 - 6 - 6 - 1, open(G2), x -> zeros);
    }

    /** A1 is left out: its coordinates come of set alone, and mirrors only turn their signs. */
    private static void thirty() {
        sentence = "In what is asked of modules, a weight with a coordinate greater than 30 is taken as one that is not dominant.";
        for (int s = A2; s < SYSTEMS; s++) {
            for (int i = 0; i < RANKS[s]; i++) {
                atThirty(s, i);
                beyondThirty(s, i, 31);
                beyondThirty(s, i, 33);
            }
        }
        due(300, great(A2, 0, 0, 23), x -> x.dimension(0));
        due(56, great(A2, 0, 0, 23), x -> x.dominant(0));
        due(ARITHMETIC, great(A2, 0, 1, 24), x -> x.dominant(0));
        due(312, load(great(A2, 0, 1, 12), 0, 2), x -> x.dimension(0));
        due(ARITHMETIC, load(great(A2, 0, 1, 12), 0, 2), x -> x.dominant(0));
    }

    private static void atThirty(int s, int place) {
        int n = RANKS[s];
        int[] weight = only(s, place, 30);
        due(30, great(s, 0, place, 30), x -> x.get(0, place));
        due(formula(s, weight), great(s, 0, place, 30), x -> x.dimension(0));
        due(formula(s, weight).doubleValue(), great(s, 0, place, 30), x -> x.ratio(0, 1));
        due(1 / formula(s, weight).doubleValue(), great(s, 0, place, 30), x -> x.ratio(1, 0));
        due(ARITHMETIC, great(s, 0, place, 30), x -> x.dominant(0));
        due(ARITHMETIC, great(s, 0, place, 30), x -> x.multiplicity(0, 1));
        due(0, great(s, 0, place, 30), x -> x.multiplicity(1, 0));
        due(ARITHMETIC, great(s, 0, place, 30), x -> x.multiply(0, 1));
        due("1 x " + Arrays.toString(weight).replaceAll("[\\[\\],]", ""), great(s, 0, place, 30), x -> split(x, x.multiply(1, 0), n));
        due(ARITHMETIC, great(s, 0, place, 30), x -> x.branch(0, 0));
        int level = 30 * open(s).coefficient(ROOTS[s] - 1, place) * open(s).square(place) / open(s).square(ROOTS[s] - 1);
        due(level > 50 ? ARGUMENT : ARITHMETIC, great(s, 0, place, 30), x -> x.fuse(0, 1, Math.min(level, 50)));
        due(level > 50 ? ARGUMENT : 1, great(s, 0, place, 30), x -> x.fuse(1, 0, Math.min(level, 50)));
    }

    private static void beyondThirty(int s, int place, int value) {
        due(value, great(s, 0, place, value), x -> x.get(0, place));
        due(UNSUPPORTED, great(s, 0, place, value), x -> x.dimension(0));
        due(UNSUPPORTED, great(s, 0, place, value), x -> x.ratio(0, 1));
        due(UNSUPPORTED, great(s, 0, place, value), x -> x.ratio(1, 0));
        due(UNSUPPORTED, great(s, 0, place, value), x -> x.dominant(0));
        due(UNSUPPORTED, great(s, 0, place, value), x -> x.multiplicity(0, 1));
        due(0, great(s, 0, place, value), x -> x.multiplicity(1, 0));
        due(UNSUPPORTED, great(s, 0, place, value), x -> x.multiply(0, 1));
        due(UNSUPPORTED, great(s, 0, place, value), x -> x.multiply(1, 0));
        due(UNSUPPORTED, great(s, 0, place, value), x -> x.fuse(0, 1, 50));
        due(UNSUPPORTED, great(s, 0, place, value), x -> x.fuse(1, 0, 50));
        due(UNSUPPORTED, great(s, 0, place, value), x -> x.branch(0, 0));
        due(true, great(s, 0, place, value), Weightlattice::isConsistent);
        due(0, great(s, 0, place, value), x -> x.raise(0));
        due(true, great(s, 0, place, value), x -> x.isLower(0, 0));
    }

    /** The dimension as a product over the roots that the hall itself tells. */
    private static BigInteger formula(int system, int... weight) {
        Weightlattice x = open(system);
        BigInteger upper = BigInteger.ONE;
        BigInteger lower = BigInteger.ONE;
        for (int r = 0; r < ROOTS[system]; r++) {
            long one = 0;
            long other = 0;
            for (int i = 0; i < weight.length; i++) {
                long share = (long) x.coefficient(r, i) * x.square(i);
                one += share * (weight[i] + 1);
                other += share;
            }
            upper = upper.multiply(BigInteger.valueOf(one));
            lower = lower.multiply(BigInteger.valueOf(other));
        }
        return upper.divide(lower);
    }

    private static void splittings() {
        sentence = "The product of two modules splits into modules, by highest weights, each a number of times, at least 1.";
        for (int s = 0; s < SYSTEMS; s++) {
            for (int i = 0; i < RANKS[s]; i++) {
                Weightlattice x = load(load(open(s), 0, only(s, i, 1)), 1, all(s, 1));
                int count = x.multiply(0, 1);
                long sum = 0;
                boolean some = count > 0;
                for (int p = 0; p < count; p++) {
                    int[] part = new int[RANKS[s]];
                    for (int j = 0; j < part.length; j++) {
                        part[j] = x.partAt(p, j);
                        some &= part[j] >= 0;
                    }
                    sum += x.times(p) * formula(s, part).longValue();
                    some &= x.times(p) >= 1;
                }
                long whole = sum;
                boolean each = some;
                due(x.dimension(0) * x.dimension(1), x, y -> whole);
                due(true, x, y -> each);
                due(INDEX, x, y -> y.times(count));
            }
        }
        sentence = "What was split last is kept, ordered by coordinates, compared from the first one on, the greater ones first.";
        due("1 x 3 0, 1 x 2 2, 2 x 1 1, 1 x 0 3, 1 x 0 0", load(open(A2), 0, 1, 1), x -> split(x, x.multiply(0, 0), 2));
        due("1 x 2 0 0, 1 x 0 1 0, 1 x 0 0 0", load(open(B3), 0, 1, 0, 0), x -> split(x, x.multiply(0, 0), 3));
        due("1 x 3 -1, 1 x 3 -2, 1 x 2 -1, 1 x 0 1, 1 x 0 0, 1 x 0 -1", load(open(G2), 0, 0, 1), x -> split(x, x.branch(0, 1), 2));
        due("1 x 9, 1 x 7, 1 x 5, 1 x 3, 1 x 1, 1 x -1, 1 x -3, 1 x -5, 1 x -7, 1 x -9", load(open(A1), 0, 9),
            x -> split(x, x.branch(0, 0), 1));
        sentence = "What was split last is kept";
        Weightlattice x = load(open(A2), 0, 1, 0);
        due("1 x 2 0, 1 x 0 1", x, y -> split(y, y.multiply(0, 0), 2));
        due("1 x 0 1", x, y -> split(y, y.fuse(0, 0, 1), 2));
        due("1 x 1 0, 1 x 0 -1", x, y -> split(y, y.branch(0, 1), 2));
        due(INDEX, x, y -> y.times(2));
        load(word(x, 0, 1), 0, 2, 2).act(0);
        x.raise(0);
        x.dominant(0);
        x.isConsistent();
        due(UNSUPPORTED, load(x, 1, -1, 0), y -> y.multiply(0, 1));
        due(UNSUPPORTED, x, y -> y.fuse(0, 1, 9));
        due(UNSUPPORTED, x, y -> y.branch(1, 0));
        due("1 x 1 0, 1 x 0 -1", x, y -> split(y, 2, 2));
    }

    private static void levels() {
        sentence = "it is what is left of the product of affine modules of this level, not just those parts of the product that pair to so little";
        due("1 x 1 1, 1 x 0 0", load(open(A2), 0, 1, 1), x -> split(x, x.fuse(0, 0, 2), 2));
        due("1 x 3 0, 2 x 1 1, 1 x 0 3, 1 x 0 0", load(open(A2), 0, 1, 1), x -> split(x, x.fuse(0, 0, 3), 2));
        due("1 x 0", load(open(A1), 0, 3), x -> split(x, x.fuse(0, 0, 3), 1));
        due("1 x 2, 1 x 0", load(open(A1), 0, 3), x -> split(x, x.fuse(0, 0, 4), 1));
        due("1 x 6, 1 x 4, 1 x 2, 1 x 0", load(open(A1), 0, 3), x -> split(x, x.fuse(0, 0, 6), 1));
        sentence = "all weights in it pair with the highest root to at most k";
        for (int s = 0; s < SYSTEMS; s++) {
            for (int i = 0; i < RANKS[s]; i++) {
                int[] weight = only(s, i, s == A1 ? 9 : 2);
                Weightlattice x = load(open(s), 0, weight);
                int least = x.pairing(0, ROOTS[s] - 1);
                for (int level = least; level <= 2 * least + 1; level++) {
                    int at = level;
                    due(true, load(open(s), 0, weight), y -> allPairToAtMost(y, systemOf(y), at));
                }
                String whole = answer(y -> split(y, y.multiply(0, 0), RANKS[systemOf(y)]), load(open(s), 0, weight));
                due(whole, load(open(s), 0, weight), y -> split(y, y.fuse(0, 0, 2 * least), RANKS[systemOf(y)]));
                due(whole, load(open(s), 0, weight), y -> split(y, y.fuse(0, 0, 50), RANKS[systemOf(y)]));
                due(false, load(open(s), 0, weight), y -> split(y, y.fuse(0, 0, 2 * least - 1), RANKS[systemOf(y)]).equals(whole));
            }
        }
    }

    /** The number of the system that was chosen. */
    private static int systemOf(Weightlattice x) {
        for (int s = 0; s < SYSTEMS; s++) {
            if (x.type() == TYPES[s] && x.order() == ORDERS[s]) {
                return s;
            }
        }
        throw new IllegalStateException("the test is off");
    }

    private static boolean allPairToAtMost(Weightlattice x, int s, int level) {
        int count = x.fuse(0, 0, level);
        for (int p = 0; p < count; p++) {
            int pairing = 0;
            for (int i = 0; i < RANKS[s]; i++) {
                pairing += x.partAt(p, i) * x.coefficient(ROOTS[s] - 1, i) * x.square(i) / x.square(ROOTS[s] - 1);
            }
            if (pairing > level || x.times(p) < 1) {
                return false;
            }
        }
        return count > 0;
    }

    private static void withoutMirror() {
        sentence = "by their highest weights, which have all n coordinates, of which that of m can be less than 0";
        due("1 x 2, 1 x 0, 1 x -2", load(open(A1), 0, 2), x -> split(x, x.branch(0, 0), 1));
        due("1 x 1 0, 1 x -1 1", load(open(A2), 0, 1, 0), x -> split(x, x.branch(0, 0), 2));
        due("1 x 1 0, 1 x 0 -1", load(open(A2), 0, 1, 0), x -> split(x, x.branch(0, 1), 2));
        due("1 x 1 1, 1 x 0 0, 1 x -1 2, 1 x -2 1", load(open(A2), 0, 1, 1), x -> split(x, x.branch(0, 0), 2));
        due("1 x 1 0 0 0, 1 x 0 0 0 -1", load(open(A4), 0, 1, 0, 0, 0), x -> split(x, x.branch(0, 3), 4));
        due("1 x 1 0 0 0, 1 x 1 -1 0 0, 1 x 0 -1 1 1", load(open(D4), 0, 1, 0, 0, 0), x -> split(x, x.branch(0, 1), 4));
        due("1 x 1 0 0, 1 x 0 1 -1", load(open(C3), 0, 1, 0, 0), x -> split(x, x.branch(0, 2), 3));
        for (int s = 0; s < SYSTEMS; s++) {
            for (int m = 0; m < RANKS[s]; m++) {
                int mirror = m;
                int n = RANKS[s];
                String zero = "1 x" + " 0".repeat(n);
                due(zero, open(s), x -> split(x, x.branch(0, mirror), n));
                due(true, load(open(s), 0, only(s, n - 1, 1)), x -> signsAreRight(x, n, mirror));
            }
        }
    }

    /** Some part has less than 0 at the mirror that was taken away, and none has at another one. */
    private static boolean signsAreRight(Weightlattice x, int n, int mirror) {
        int count = x.branch(0, mirror);
        boolean some = false;
        for (int p = 0; p < count; p++) {
            for (int i = 0; i < n; i++) {
                if (x.partAt(p, i) < 0 && i != mirror) {
                    return false;
                }
            }
            some |= x.partAt(p, mirror) < 0;
        }
        return some;
    }

    // ---- promises

    private static void newObject() {
        sentence = "Creates a hall without a system, with an empty word, and registers of which all coordinates are 0.";
        due('-', new Weightlattice(), Weightlattice::type);
        due(0, new Weightlattice(), Weightlattice::clear);
        due("IllegalStateException", new Weightlattice(), Weightlattice::order);
        for (int s = 0; s < SYSTEMS; s++) {
            due(0, open(s), Weightlattice::clear);
            due(0, open(s), Weightlattice::length);
            due(1, open(s), x -> x.put(0));
            for (int r = 0; r < 4; r++) {
                int register = r;
                int n = RANKS[s];
                due("0 0 0 0".substring(0, 2 * n - 1), open(s), x -> weightIn(x, register, n));
            }
        }
    }

    /** An object in which nothing is as at first. */
    private static Weightlattice used(int s) {
        Weightlattice x = open(s);
        for (int r = 0; r < 4; r++) {
            load(x, r, all(s, r + 1));
        }
        word(x, 0);
        x.keep();
        if (RANKS[s] > 1) {
            x.put(1);
        }
        load(x, 0, only(s, 0, 1));
        x.multiply(0, 0);
        x.dominant(0);
        answer(y -> y.polynomial(0), x);
        return x;
    }

    private static void chooseAgain() {
        for (int s = 0; s < SYSTEMS; s++) {
            for (int t = 0; t < SYSTEMS; t++) {
                int n = RANKS[t];
                Weightlattice x = used(s);
                sentence = "Chooses a system, in place of another one";
                int next = t;
                due(ROOTS[t], x, y -> y.choose(TYPES[next], n));
                due(TYPES[t], x, Weightlattice::type);
                due(ORDERS[t], x, Weightlattice::order);
                due(MATRICES[t], x, y -> matrix(y, n));
                due(COEFFICIENTS[t], x, y -> coefficients(y, next));
                due(SQUARES[t], x, y -> squares(y, ROOTS[next]));
                due(EXPONENTS[t], x, y -> exponents(y, n));
                due(INDEX, x, y -> y.matrix(0, n));
                due(INDEX, x, y -> y.square(ROOTS[next]));
                sentence = "the word is as at first then";
                due(0, x, Weightlattice::length);
                due(0, x, Weightlattice::clear);
                sentence = "what was kept is as at first then";
                due(true, x, Weightlattice::isBelow);
                due(false, x, y -> word(y, 0).isBelow());
                x.clear();
                due(0, x, Weightlattice::keep);
                sentence = "what was split is as at first then";
                due(INDEX, x, y -> y.times(0));
                due(INDEX, x, y -> y.partAt(0, 0));
                sentence = "the registers are as at first then";
                for (int r = 0; r < 4; r++) {
                    int register = r;
                    due("0 0 0 0".substring(0, 2 * n - 1), x, y -> weightIn(y, register, n));
                }
                sentence = "and modules and polynomials are those of the new system";
                load(x, 0, only(t, 0, 1));
                due(answer(y -> y.dominant(0), load(open(t), 0, only(t, 0, 1))), x, y -> y.dominant(0));
                due(answer(y -> split(y, y.multiply(0, 0), n), load(open(t), 0, only(t, 0, 1))), x, y -> split(y, y.multiply(0, 0), n));
                due(answer(y -> kept(y, 0).polynomial(0), open(t)), x, y -> kept(y, 0).polynomial(0));
            }
        }
    }

    private static void exponents() {
        sentence = "how many exponents are at least h is how many positive roots have the sum h of coefficients";
        for (int s = 0; s < SYSTEMS; s++) {
            for (int h = 1; h <= 6; h++) {
                Weightlattice x = open(s);
                int withSum = 0;
                for (int r = 0; r < ROOTS[s]; r++) {
                    int sum = 0;
                    for (int i = 0; i < RANKS[s]; i++) {
                        sum += x.coefficient(r, i);
                    }
                    withSum += sum == h ? 1 : 0;
                }
                int atLeast = 0;
                for (int i = 0; i < RANKS[s]; i++) {
                    atLeast += x.exponent(i) >= h ? 1 : 0;
                }
                int found = atLeast;
                due(withSum, x, y -> found);
            }
        }
        sentence = "the index, from 0, the least exponent first";
        for (int s = 0; s < SYSTEMS; s++) {
            int n = RANKS[s];
            due(EXPONENTS[s], open(s), x -> exponents(x, n));
            due(INDEX, open(s), x -> x.exponent(n));
            due(ORDERS[s], open(s), Weightlattice::order);
        }
    }

    private static void words() {
        sentence = "Puts a mirror behind the word. Returns how many the word has.";
        for (int s = 0; s < SYSTEMS; s++) {
            int n = RANKS[s];
            Weightlattice x = open(s);
            for (int k = 1; k <= 40; k++) {
                int mirror = k % n;
                due(k, x, y -> y.put(mirror));
            }
            due(UNSUPPORTED, x, y -> y.put(0));
            sentence = "Makes the word empty. Returns how many mirrors it had.";
            due(40, x, Weightlattice::clear);
            due(0, x, Weightlattice::clear);
            due(0, x, Weightlattice::length);
            due(1, x, y -> y.put(n - 1));
            due(1, x, Weightlattice::clear);
            sentence = "Puts a mirror behind the word. Returns how many the word has.";
        }
        due("01", word(open(A2), 0, 1), BoundariesTest::reduced);
        due("10", word(open(A2), 1, 0), BoundariesTest::reduced);
        sentence = "Makes the word empty, also without a system.";
        due(0, new Weightlattice(), Weightlattice::clear);
    }

    private static void firstWords() {
        sentence = "a mirror of the first reduced word of this element, the words being compared from their beginnings, lower mirrors first";
        due("023", word(open(D4), 3, 2, 0), BoundariesTest::reduced);
        due("023", word(open(D4), 2, 3, 0), BoundariesTest::reduced);
        due("010", word(open(A2), 1, 0, 1), BoundariesTest::reduced);
        due("0101", word(open(B2), 1, 0, 1, 0), BoundariesTest::reduced);
        due("010101", word(open(G2), 1, 0, 1, 0, 1, 0), BoundariesTest::reduced);
        due("10101", word(open(G2), 1, 0, 1, 0, 1), BoundariesTest::reduced);
        due("", open(A4), BoundariesTest::reduced);
        for (int s = 0; s < SYSTEMS; s++) {
            due(ROOTS[s], longest(open(s), s), x -> reduced(x).length());
            due(firstWord(s, longestWord(s)), longest(open(s), s), BoundariesTest::reduced);
            List<Integer> mixed = new ArrayList<>();
            for (int k = 0; k < 20; k++) {
                mixed.add((k * k + k / 3) % RANKS[s]);
            }
            due(firstWord(s, mixed), wordOf(s, mixed), BoundariesTest::reduced);
        }
    }

    private static Weightlattice wordOf(int s, List<Integer> mirrors) {
        Weightlattice x = open(s);
        for (int mirror : mirrors) {
            x.put(mirror);
        }
        return x;
    }

    private static List<Integer> longestWord(int s) {
        List<Integer> mirrors = new ArrayList<>();
        while (wordOf(s, mirrors).length() < ROOTS[s]) {
            int mirror = RANKS[s] - 1;
            while (wordOf(s, mirrors).goesDown(mirror, false)) {
                mirror--;
            }
            mirrors.add(mirror);
        }
        return mirrors;
    }

    /** The lowest mirror that makes the element shorter comes first; put ahead, it takes that away. */
    private static String firstWord(int s, List<Integer> mirrors) {
        StringBuilder text = new StringBuilder();
        List<Integer> left = new ArrayList<>(mirrors);
        while (wordOf(s, left).length() > 0) {
            int length = wordOf(s, left).length();
            int mirror = -1;
            List<Integer> shorter = left;
            while (wordOf(s, shorter).length() >= length) {
                mirror++;
                shorter = new ArrayList<>(left);
                shorter.add(0, mirror);
            }
            text.append(mirror);
            left = shorter;
        }
        return text.toString();
    }

    private static void goesDown() {
        sentence = "Returns whether a mirror put ahead of the word, or behind it, makes the length less.";
        for (int s = 0; s < SYSTEMS; s++) {
            for (int i = 0; i < RANKS[s]; i++) {
                int mirror = i;
                due(false, open(s), x -> x.goesDown(mirror, true));
                due(false, open(s), x -> x.goesDown(mirror, false));
                due(true, longest(open(s), s), x -> x.goesDown(mirror, true));
                due(true, longest(open(s), s), x -> x.goesDown(mirror, false));
                due(true, word(open(s), i), x -> x.goesDown(mirror, true));
                due(true, word(open(s), i), x -> x.goesDown(mirror, false));
                due(false, word(open(s), i, i), x -> x.goesDown(mirror, true));
            }
        }
        due(true, word(open(A2), 0, 1), x -> x.goesDown(0, true));
        due(false, word(open(A2), 0, 1), x -> x.goesDown(0, false));
        due(false, word(open(A2), 0, 1), x -> x.goesDown(1, true));
        due(true, word(open(A2), 0, 1), x -> x.goesDown(1, false));
        sentence = "a mirror put ahead of a word that is full, or behind it";
        Weightlattice full = open(A1);
        for (int k = 0; k < 39; k++) {
            full.put(0);
        }
        due(true, full, x -> x.goesDown(0, true));
        full.put(0);
        due(false, full, x -> x.goesDown(0, true));
        due(false, full, x -> x.goesDown(0, false));
        due(40, full, Weightlattice::clear);
    }

    private static void keep() {
        sentence = "in place of the one that is kept, which is at first the one of the empty word";
        for (int s = 0; s < SYSTEMS; s++) {
            int most = ROOTS[s];
            due(0, open(s), Weightlattice::keep);
            due(0, longest(open(s), s), Weightlattice::keep);
            due(false, longest(open(s), s), Weightlattice::isBelow);
            Weightlattice x = longest(open(s), s);
            x.keep();
            due(most, x, Weightlattice::length);
            due(most, x, Weightlattice::keep);
            x.clear();
            due(true, x, Weightlattice::isBelow);
            due(most, x, Weightlattice::keep);
            due(0, x, Weightlattice::keep);
        }
        sentence = "Keeps the element of the word: what the word is later changes nothing of it";
        Weightlattice x = kept(open(A2), 0, 1);
        word(x, 1, 0);
        due(false, x, Weightlattice::isBelow);
        due(2, x, Weightlattice::keep);
    }

    private static void polynomials() {
        sentence = "the power, 0 to 9";
        for (int s = 0; s < SYSTEMS; s++) {
            if (ORDERS[s] > 48) {
                continue;
            }
            Weightlattice x = longest(open(s), s);
            x.keep();
            due("1 0 0 0 0 0 0 0 0 0", x, BoundariesTest::coefficientsOf);
            x.clear();
            due("1 0 0 0 0 0 0 0 0 0", x, BoundariesTest::coefficientsOf);
            due(ARGUMENT, x, y -> y.polynomial(-1));
            due(ARGUMENT, x, y -> y.polynomial(10));
        }
        sentence = "Throws UnsupportedOperationException if the group has more than 48 elements";
        due("1 1 0 0 0 0 0 0 0 0", kept(open(B3), 0, 1, 2, 1, 0), x -> coefficientsOf(word(x)));
        due("1 1 0 0 0 0 0 0 0 0", kept(open(C3), 0, 1, 2, 1, 0), x -> coefficientsOf(word(x)));
        due(UNSUPPORTED, open(A4), x -> x.polynomial(0));
        due(UNSUPPORTED, open(D4), x -> x.polynomial(0));
    }

    private static void registers() {
        sentence = "Sets a coordinate of the weight in a register. Returns the one before.";
        for (int s = 0; s < SYSTEMS; s++) {
            int last = RANKS[s] - 1;
            Weightlattice x = open(s);
            for (int register = 0; register < 4; register++) {
                int r = register;
                due(0, x, y -> y.set(r, last, 9));
                due(9, x, y -> y.set(r, last, -9));
                due(-9, x, y -> y.set(r, last, r));
            }
            for (int register = 0; register < 4; register++) {
                int r = register;
                due(r, x, y -> y.get(r, last));
                due(last == 0 ? r : 0, x, y -> y.get(r, 0));
            }
            due(ARGUMENT, x, y -> y.set(0, 0, 10));
            due(ARGUMENT, x, y -> y.set(0, 0, -10));
        }
        due(18, word(load(open(A2), 0, 9, 9), 0), x -> setAfterAct(x, 1));
        due(-9, word(load(open(A2), 0, 9, 9), 0), x -> setAfterAct(x, 0));
        due(36, word(load(open(G2), 0, 9, 9), 1), x -> setAfterAct(x, 0));
    }

    private static int setAfterAct(Weightlattice x, int index) {
        x.act(0);
        return x.set(0, index, 0);
    }

    private static void act() {
        sentence = "Returns how many of its coordinates are other ones by that.";
        for (int s = 0; s < SYSTEMS; s++) {
            int n = RANKS[s];
            due(0, load(open(s), 0, all(s, 9)), x -> x.act(0));
            due(0, longest(open(s), s), x -> x.act(0));
            due(0, word(load(open(s), 0, all(s, 9)), 0, 0), x -> x.act(0));
            due(n, longest(load(open(s), 3, all(s, 1)), s), x -> x.act(3));
            for (int i = 0; i < n; i++) {
                int neighbours = 0;
                int[] none = all(s, 5);
                none[i] = 0;
                Weightlattice x = word(load(load(open(s), 0, all(s, 1)), 1, none), i);
                for (int j = 0; j < n; j++) {
                    neighbours += x.matrix(i, j) != 0 ? 1 : 0;
                }
                due(neighbours, x, y -> y.act(0));
                due(0, x, y -> y.act(1));
            }
        }
    }

    private static void raise() {
        sentence = "Makes the weight in a register dominant, by mirrors. Returns how many mirrors are needed at least.";
        for (int s = 0; s < SYSTEMS; s++) {
            int n = RANKS[s];
            due(0, open(s), x -> x.raise(0));
            due(0, load(open(s), 0, all(s, 9)), x -> x.raise(0));
            due(ROOTS[s], load(open(s), 3, all(s, -9)), x -> x.raise(3));
            for (int i = 0; i < n; i++) {
                for (int k = 0; k < 6; k++) {
                    int[] weight = only(s, i, k % 3 - 2);
                    weight[k % n] -= k % 2;
                    Weightlattice x = load(open(s), 1, weight);
                    due(negative(x, s, weight), x, y -> y.raise(1));
                    for (int j = 0; j < n; j++) {
                        int index = j;
                        due(true, x, y -> y.get(1, index) >= 0);
                    }
                    due(0, x, y -> y.raise(1));
                }
            }
        }
        due("9 9 9 9", load(open(D4), 3, all(D4, -9)), x -> raised(x, 3, 4));
        due("0 1", load(open(A2), 2, -1, 0), x -> raised(x, 2, 2));
        due("1 0", load(open(G2), 2, -1, 0), x -> raised(x, 2, 2));
    }

    private static String raised(Weightlattice x, int register, int n) {
        x.raise(register);
        return weightIn(x, register, n);
    }

    /** How many positive roots pair to less than 0 with a weight: each needed mirror takes one of them away. */
    private static int negative(Weightlattice x, int s, int[] weight) {
        int negative = 0;
        for (int r = 0; r < ROOTS[s]; r++) {
            int sum = 0;
            for (int i = 0; i < weight.length; i++) {
                sum += weight[i] * (COEFFICIENTS[s].split(" ")[r].charAt(i) - '0') * x.square(i);
            }
            negative += sum < 0 ? 1 : 0;
        }
        return negative;
    }

    private static void orbit() {
        sentence = "Returns how many weights mirrors make of the weight in a register, this one included.";
        for (int s = 0; s < SYSTEMS; s++) {
            long order = ORDERS[s];
            due(1, open(s), x -> x.orbit(0));
            due(order, load(open(s), 1, all(s, 1)), x -> x.orbit(1));
            due(order, load(open(s), 2, all(s, -9)), x -> x.orbit(2));
            due(2, load(open(A1), 3, s + 1), x -> x.orbit(3));
        }
        due(3, load(open(A2), 0, 0, -5), x -> x.orbit(0));
        due(6, load(open(A2), 0, 2, -1), x -> x.orbit(0));
        due(3, load(open(A2), 0, 1, -1), x -> x.orbit(0));
        due(24, load(open(D4), 0, 0, 1, 0, 0), x -> x.orbit(0));
    }

    private static void isLower() {
        sentence = "is a sum of simple roots, none of them, or each a number of times";
        for (int s = 0; s < SYSTEMS; s++) {
            int n = RANKS[s];
            due(true, open(s), x -> x.isLower(0, 0));
            due(true, open(s), x -> x.isLower(0, 3));
            due(true, load(load(open(s), 1, all(s, -7)), 2, all(s, -7)), x -> x.isLower(1, 2));
            for (int i = 0; i < n; i++) {
                Weightlattice x = open(s);
                for (int j = 0; j < n; j++) {
                    x.set(1, j, x.matrix(i, j));
                    x.set(2, j, 3 * x.matrix(i, j));
                    x.set(3, j, x.matrix(i, j) - x.matrix((i + 1) % n, j));
                }
                due(true, x, y -> y.isLower(0, 1));
                due(true, x, y -> y.isLower(1, 2));
                due(false, x, y -> y.isLower(1, 0));
                due(n == 1, x, y -> y.isLower(0, 3));
                due(n == 1, x, y -> y.isLower(3, 0));
            }
        }
        due(false, load(open(A1), 1, 1), x -> x.isLower(0, 1));
        due(false, load(open(A2), 1, 1, 0), x -> x.isLower(0, 1));
        due(false, load(open(A4), 1, 0, 0, 0, 9), x -> x.isLower(0, 1));
        due(true, load(open(A4), 1, 0, 0, 0, 5), x -> x.isLower(0, 1));
        due(false, load(open(D4), 1, 0, 0, 1, 0), x -> x.isLower(0, 1));
        due(false, load(open(D4), 1, 0, 0, 1, 1), x -> x.isLower(0, 1));
        due(true, load(open(D4), 1, 0, 0, 2, 0), x -> x.isLower(0, 1));
        due(true, load(open(G2), 1, 1, 0), x -> x.isLower(0, 1));
    }

    /** In D4 a weight in which all coordinates but one are 30: two turns of set and act after (0, 28, 0, 0). */
    private static Weightlattice greatest() {
        Weightlattice x = great(D4, 0, 1, 28);
        x.set(0, 0, -3);
        x.set(0, 2, 2);
        x.set(0, 3, 2);
        word(x, 1).act(0);
        x.set(0, 1, 5);
        word(x, 0).act(0);
        x.set(0, 0, 9);
        return x;
    }

    private static void dimension() {
        sentence = "Returns the dimension of the module of the weight in a register, as a long";
        for (int s = 0; s < SYSTEMS; s++) {
            due(1, open(s), x -> x.dimension(0));
            due(formula(s, all(s, 9)), load(open(s), 3, all(s, 9)), x -> x.dimension(3));
        }
        due("9 30 30 30", greatest(), x -> weightIn(x, 0, 4));
        due(formula(D4, 9, 30, 30, 30), greatest(), x -> x.dimension(0));
        due(true, greatest(), x -> x.dimension(0) > 1L << 55);
        sentence = "Returns the dimension of the one divided by that of the other one, both converted to double.";
        double great = formula(D4, 9, 30, 30, 30).doubleValue();
        due(great, greatest(), x -> x.ratio(0, 1));
        due(1 / great, greatest(), x -> x.ratio(1, 0));
        due(great / 8, load(greatest(), 2, 1, 0, 0, 0), x -> x.ratio(0, 2));
        due(8 / great, load(greatest(), 2, 1, 0, 0, 0), x -> x.ratio(2, 0));
        due(1.0, greatest(), x -> x.ratio(0, 0));
        due(1.0, open(G2), x -> x.ratio(0, 3));
        due(1.0 / 3.0, load(open(A2), 0, 0, 1), x -> x.ratio(1, 0));
    }

    private static void dominant() {
        sentence = "Returns how many dominant weights a module has.";
        for (int s = 0; s < SYSTEMS; s++) {
            due(1, open(s), x -> x.dominant(0));
        }
        int[][] fundamental = {{1}, {1, 1}, {1, 1, 1}, {1, 1, 1, 1}, {2, 1}, {2, 3, 1}, {1, 2, 2}, {1, 2, 1, 1}, {2, 3}};
        for (int s = 0; s < SYSTEMS; s++) {
            for (int i = 0; i < RANKS[s]; i++) {
                due(fundamental[s][i], load(open(s), 2, only(s, i, 1)), x -> x.dominant(2));
            }
        }
        sentence = "Throws ArithmeticException if its dimension is greater than 300";
        due(7, load(open(D4), 0, 0, 2, 0, 0), x -> x.dominant(0));
        due(ARITHMETIC, load(open(A2), 0, 4, 8), x -> x.dominant(0));
        due(300, load(open(A3), 0, 2, 1, 2), x -> x.dimension(0));
        due(1, load(open(A3), 0, 2, 1, 2), x -> x.multiplicity(0, 0));
        due(300, load(open(A3), 0, 3, 0, 3), x -> x.dimension(0));
        due(10, load(open(A3), 0, 3, 0, 3), x -> x.multiplicity(0, 1));
    }

    private static void products() {
        sentence = "Splits a product. Returns how many unlike modules are in it.";
        for (int s = 0; s < SYSTEMS; s++) {
            int n = RANKS[s];
            String zeros = "1 x" + " 0".repeat(n);
            String nines = "1 x" + " 9".repeat(n);
            due(zeros, open(s), x -> split(x, x.multiply(0, 1), n));
            due(zeros, open(s), x -> split(x, x.multiply(2, 2), n));
            due(nines, load(open(s), 3, all(s, 9)), x -> split(x, x.multiply(0, 3), n));
            due(zeros, open(s), x -> split(x, x.fuse(0, 1, 0), n));
            due(zeros, open(s), x -> split(x, x.fuse(3, 3, 50), n));
        }
        sentence = "Throws ArithmeticException if the dimension of the one module is greater than 300";
        due(1, load(open(A2), 1, 4, 8), x -> x.multiply(0, 1));
        due(ARITHMETIC, load(open(A2), 1, 4, 8), x -> x.multiply(1, 0));
        due("1 x 31 0, 1 x 29 1", load(great(A2, 0, 0, 30), 1, 1, 0), x -> split(x, x.multiply(1, 0), 2));
        sentence = "the level, 0 to 50";
        due("1 x 30 0", great(A2, 0, 0, 30), x -> split(x, x.fuse(1, 0, 30), 2));
        due("1 x 29 1", load(great(A2, 0, 0, 30), 1, 1, 0), x -> split(x, x.fuse(1, 0, 30), 2));
        due("1 x 31 0, 1 x 29 1", load(great(A2, 0, 0, 30), 1, 1, 0), x -> split(x, x.fuse(1, 0, 31), 2));
        due("1 x 31 0, 1 x 29 1", load(great(A2, 0, 0, 30), 1, 1, 0), x -> split(x, x.fuse(1, 0, 50), 2));
        due(ARGUMENT, great(A2, 0, 0, 30), x -> x.fuse(1, 0, 29));
        due(ARGUMENT, great(A2, 0, 0, 30), x -> x.fuse(1, 0, 51));
        due(ARGUMENT, open(A2), x -> x.fuse(0, 0, -1));
    }

    private static void parts() {
        sentence = "the number of the part, of what was split last";
        for (int s = 0; s < SYSTEMS; s++) {
            int last = RANKS[s] - 1;
            due(INDEX, open(s), x -> x.times(0));
            due(INDEX, open(s), x -> x.partAt(0, 0));
            Weightlattice x = load(open(s), 0, only(s, last, 2));
            x.multiply(1, 0);
            due(1, x, y -> y.times(0));
            due(2, x, y -> y.partAt(0, last));
            due(INDEX, x, y -> y.times(1));
            due(INDEX, x, y -> y.times(-1));
            due(INDEX, x, y -> y.partAt(1, 0));
            due(INDEX, x, y -> y.partAt(0, last + 1));
            due(INDEX, x, y -> y.partAt(0, -1));
        }
    }

    private static void figures() {
        sentence = "Returns the number of positive roots divided by 2, both converted to float.";
        float[] means = {0.5f, 1.5f, 3.0f, 5.0f, 2.0f, 4.5f, 4.5f, 6.0f, 3.0f};
        for (int s = 0; s < SYSTEMS; s++) {
            due(means[s], open(s), Weightlattice::meanLength);
        }
        sentence = "Returns the type, or '-' without a system.";
        Weightlattice x = new Weightlattice();
        due('-', x, Weightlattice::type);
        due(ARGUMENT, x, y -> y.choose('B', 1));
        due('-', x, Weightlattice::type);
        for (int s = 0; s < SYSTEMS; s++) {
            x.choose(TYPES[s], RANKS[s]);
            due(TYPES[s], x, Weightlattice::type);
            due(ARGUMENT, x, y -> y.choose('-', 0));
            due(TYPES[s], x, Weightlattice::type);
        }
    }

    private static void isConsistent() {
        sentence = "and for the weight in the register 0, if it is dominant and the dimension of its module at most 60";
        for (int s = 0; s < SYSTEMS; s++) {
            due(true, open(s), Weightlattice::isConsistent);
            due(true, load(open(s), 0, all(s, -1)), Weightlattice::isConsistent);
            due(true, load(open(s), 0, all(s, 9)), Weightlattice::isConsistent);
            Weightlattice again = load(open(s), 1, only(s, 0, 2));
            for (int i = 0; i < RANKS[s]; i++) {
                due(true, load(open(s), 0, only(s, i, 1)), Weightlattice::isConsistent);
                due(true, load(open(s), 0, only(s, i, 2)), Weightlattice::isConsistent);
                due(true, load(again, 0, only(s, i, 1)), Weightlattice::isConsistent);
                due(true, again, Weightlattice::isConsistent);
                again.dominant(1);
                due(true, load(again, 0, only(s, i, 2)), Weightlattice::isConsistent);
            }
        }
        due(60, load(open(A2), 0, 4, 2), x -> x.dimension(0));
        due(true, load(open(A2), 0, 4, 2), Weightlattice::isConsistent);
        due(true, load(open(A3), 0, 1, 2, 0), Weightlattice::isConsistent);
        due(true, load(open(A2), 0, 6, 1), Weightlattice::isConsistent);
        due(true, great(A2, 0, 0, 31), Weightlattice::isConsistent);
        due("IllegalStateException", new Weightlattice(), Weightlattice::isConsistent);
    }
}
