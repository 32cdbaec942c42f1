/**
 * Each row "Throws" of the document by itself: the exception at each edge, none just inside of it, the one that is
 * listed first where several conditions hold, and nothing changed by a call that throws.
 */
public final class RefusalsTest {
    private static final String STATE = "IllegalStateException";
    private static final String INDEX = "IndexOutOfBoundsException";
    private static final String ARGUMENT = "IllegalArgumentException";
    private static final String UNSUPPORTED = "UnsupportedOperationException";
    private static final String ARITHMETIC = "ArithmeticException";
    private static final String MISSING = "NoSuchElementException";
    private static final int LEAST = Integer.MIN_VALUE;
    private static final int MOST = Integer.MAX_VALUE;
    private static final int SYSTEMS = 9;
    private static final int A1 = 0;
    private static final int A2 = 1;
    private static final int A3 = 2;
    private static final int A4 = 3;
    private static final int B3 = 5;
    private static final int C3 = 6;
    private static final int D4 = 7;
    private static final int G2 = 8;
    private static final char[] TYPES = {'A', 'A', 'A', 'A', 'B', 'B', 'C', 'D', 'G'};
    private static final int[] RANKS = {1, 2, 3, 4, 2, 3, 3, 4, 2};
    private static final int[] ROOTS = {1, 3, 6, 10, 4, 9, 9, 12, 6};
    /** Of all modules with coordinates up to 9: one with the greatest dimension up to 300, and one with the next greater one. */
    private static final int[][] LARGE = {{9}, {9, 3}, {2, 1, 2}, {3, 0, 1, 0}, {8, 0}, {0, 0, 4}, {5, 0, 0}, {0, 2, 0, 0}, {1, 2}};
    private static final long[] LARGE_SIZES = {10, 280, 300, 280, 285, 294, 252, 300, 286};
    private static final int[][] TOO_LARGE = {null, {8, 4}, {6, 1, 0}, {0, 2, 1, 0}, {1, 7}, {2, 1, 0}, {0, 0, 3}, {1, 0, 1, 1}, {5, 0}};
    private static final long[] TOO_LARGE_SIZES = {0, 315, 315, 315, 320, 330, 330, 350, 378};
    /** What the weight that has 1 at one place alone pairs to with the highest root. */
    private static final int[][] LEVELS = {{1}, {1, 1}, {1, 1, 1}, {1, 1, 1, 1}, {1, 1}, {1, 2, 1}, {1, 1, 1}, {1, 2, 1, 1}, {1, 2}};

    private interface Call {
        Object on(Weightlattice x);
    }

    private interface Maker {
        Weightlattice make();
    }

    private static final Maker NEW = Weightlattice::new;

    private static int wrong = 0;
    private static String row = "";

    public static void main(String[] args) {
        choose();
        systems();
        words();
        put();
        reducedAt();
        polynomial();
        set();
        weights();
        dimension();
        multiplicity();
        dominant();
        multiply();
        fuse();
        fuseLevels();
        branch();
        parts();
        figures();
        System.out.println(wrong == 0 ? "all answers are as due" : wrong + " answers are wrong");
        System.exit(wrong == 0 ? 0 : 1);
    }

    private static void tell(String text) {
        wrong++;
        System.out.println(row + ": " + text);
    }

    private static String answer(Call call, Weightlattice x) {
        try {
            return String.valueOf(call.on(x));
        } catch (RuntimeException e) {
            return e.getClass().getSimpleName();
        }
    }

    /** The call throws just this, and an object that it was tried on tells all as one that it was not tried on. */
    private static void refused(String want, Maker maker, Call call) {
        Weightlattice x = maker.make();
        String answer = answer(call, x);
        if (!answer.equals(want)) {
            tell("answered " + answer + ", due is " + want);
        }
        String after = state(x);
        String before = state(maker.make());
        if (!after.equals(before)) {
            tell(want + " changed " + before + " to " + after);
        }
    }

    private static void due(Object want, Maker maker, Call call) {
        String answer = answer(call, maker.make());
        if (!answer.equals(String.valueOf(want))) {
            tell("answered " + answer + ", due is " + want);
        }
    }

    private static void allowed(Maker maker, Call call) {
        String answer = answer(call, maker.make());
        if (answer.endsWith("Exception")) {
            tell("threw " + answer);
        }
    }

    private static int[] outside(int size) {
        return new int[] {LEAST, -size - 1, -size, -1, size, size + 1, 2 * size, 65536, 65536 * 4, MOST};
    }

    /** A word, another element that is kept, four weights and three parts or fewer. */
    private static Maker busy(int system) {
        return () -> {
            Weightlattice x = new Weightlattice();
            int n = RANKS[system];
            x.choose(TYPES[system], n);
            x.put(0);
            if (n > 1) {
                x.put(n - 1);
            }
            x.keep();
            x.clear();
            x.put(0);
            x.set(0, 0, 1);
            x.set(1, 0, -1);
            x.set(1, n - 1, n == 1 ? -1 : 2);
            x.set(2, n - 1, 1);
            x.set(3, 0, 2);
            x.multiply(0, 2);
            return x;
        };
    }

    /** The same with another weight in register 3. */
    private static Maker with(int system, int... weight) {
        return () -> {
            Weightlattice x = busy(system).make();
            for (int i = 0; i < weight.length; i++) {
                x.set(3, i, weight[i]);
            }
            return x;
        };
    }

    /** A2 with (0, 31) in register 3, and all else as in busy. */
    private static Maker beyond() {
        return () -> {
            Weightlattice x = busy(A2).make();
            for (int value : new int[] {9, 9, 9, 4}) {
                x.set(3, 0, value);
                x.act(3);
            }
            x.set(3, 0, 0);
            if (x.get(3, 1) != 31) {
                tell("the test is off: " + x.get(3, 1));
            }
            return x;
        };
    }

    /** All that calls tell of an object; it is used up by that. */
    private static String state(Weightlattice x) {
        StringBuilder text = new StringBuilder();
        text.append(x.type());
        if (x.type() == '-') {
            text.append(x.clear()).append(answer(Weightlattice::length, x));
            x.choose('A', 2);
        }
        int n = 0;
        while (n < 4 && !answer(exponentAt(n), x).equals(INDEX)) {
            n++;
        }
        text.append(n).append(' ').append(x.order()).append(' ').append(x.length()).append(x.isBelow());
        for (int k = 0; k < x.length(); k++) {
            text.append(' ').append(x.reducedAt(k));
        }
        tellRegisters(x, n, text);
        tellParts(x, n, text);
        text.append(" word ").append(x.clear());
        for (int k = 0; k < 9; k++) {
            x.put(k % n);
            text.append(x.isBelow() ? '+' : '-').append(answer(y -> y.polynomial(0), x));
        }
        return text.append(" kept ").append(x.keep()).toString();
    }

    private static Call exponentAt(int index) {
        return x -> x.exponent(index);
    }

    private static void tellRegisters(Weightlattice x, int n, StringBuilder text) {
        for (int r = 0; r < 4; r++) {
            int register = r;
            text.append(" register");
            for (int i = 0; i < n; i++) {
                text.append(' ').append(x.get(r, i));
            }
            text.append(answer(y -> y.dominant(register), x)).append(answer(y -> y.multiplicity(register, 2), x));
        }
    }

    private static void tellParts(Weightlattice x, int n, StringBuilder text) {
        for (int p = 0; p < 20; p++) {
            int part = p;
            if (answer(y -> y.times(part), x).equals(INDEX)) {
                return;
            }
            text.append(" part ").append(x.times(p)).append(" x");
            for (int i = 0; i < n; i++) {
                text.append(' ').append(x.partAt(p, i));
            }
        }
    }

    private static void noSystem(Call right, Call wrongToo) {
        refused(STATE, NEW, right);
        refused(STATE, NEW, wrongToo);
    }

    private static boolean isSystem(char type, int rank) {
        for (int s = 0; s < SYSTEMS; s++) {
            if (TYPES[s] == type && RANKS[s] == rank) {
                return true;
            }
        }
        return false;
    }

    private static void choose() {
        row = "choose: IllegalArgumentException if there is no such system";
        int[] ranks = {LEAST, -4, -1, 0, 1, 2, 3, 4, 5, 6, 256 + 2, 65536 + 2, MOST};
        String types = "ABCDGEFHabcdg-@ 0" + (char) 0 + (char) 127 + (char) 193 + (char) 321 + (char) 65535;
        for (int t = 0; t < types.length(); t++) {
            char type = types.charAt(t);
            for (int rank : ranks) {
                if (isSystem(type, rank)) {
                    allowed(NEW, x -> x.choose(type, rank));
                    allowed(busy(A2), x -> x.choose(type, rank));
                } else {
                    refused(ARGUMENT, NEW, x -> x.choose(type, rank));
                    refused(ARGUMENT, busy(A2), x -> x.choose(type, rank));
                }
            }
        }
    }

    private static void systems() {
        row = "matrix: IllegalStateException if no system was chosen";
        noSystem(x -> x.matrix(0, 0), x -> x.matrix(-1, 4));
        row = "coefficient: IllegalStateException if no system was chosen";
        noSystem(x -> x.coefficient(0, 0), x -> x.coefficient(-1, 4));
        row = "square: IllegalStateException if no system was chosen";
        noSystem(x -> x.square(0), x -> x.square(-1));
        row = "exponent: IllegalStateException if no system was chosen";
        noSystem(x -> x.exponent(0), x -> x.exponent(-1));
        row = "order: IllegalStateException if no system was chosen";
        refused(STATE, NEW, Weightlattice::order);
        for (int s = 0; s < SYSTEMS; s++) {
            Maker maker = busy(s);
            int n = RANKS[s];
            int roots = ROOTS[s];
            for (int bad : outside(n)) {
                row = "matrix: IndexOutOfBoundsException if there is no such simple root, for either";
                refused(INDEX, maker, x -> x.matrix(bad, 0));
                refused(INDEX, maker, x -> x.matrix(n - 1, bad));
                refused(INDEX, maker, x -> x.matrix(bad, bad));
                row = "coefficient: IndexOutOfBoundsException if there is no such root or simple root";
                refused(INDEX, maker, x -> x.coefficient(0, bad));
                refused(INDEX, maker, x -> x.coefficient(roots - 1, bad));
                row = "exponent: IndexOutOfBoundsException if there is no such exponent";
                refused(INDEX, maker, x -> x.exponent(bad));
            }
            for (int bad : outside(roots)) {
                row = "coefficient: IndexOutOfBoundsException if there is no such root or simple root";
                refused(INDEX, maker, x -> x.coefficient(bad, 0));
                refused(INDEX, maker, x -> x.coefficient(bad, n));
                row = "square: IndexOutOfBoundsException if there is no such root";
                refused(INDEX, maker, x -> x.square(bad));
            }
            row = "just inside, in system " + s;
            allowed(maker, x -> x.matrix(0, n - 1));
            allowed(maker, x -> x.matrix(n - 1, 0));
            allowed(maker, x -> x.coefficient(0, n - 1));
            allowed(maker, x -> x.coefficient(roots - 1, 0));
            allowed(maker, x -> x.square(0));
            allowed(maker, x -> x.square(roots - 1));
            allowed(maker, x -> x.exponent(0));
            allowed(maker, x -> x.exponent(n - 1));
        }
    }

    private static void words() {
        row = "length: IllegalStateException if no system was chosen";
        refused(STATE, NEW, Weightlattice::length);
        row = "goesDown: IllegalStateException if no system was chosen";
        noSystem(x -> x.goesDown(0, true), x -> x.goesDown(-1, true));
        noSystem(x -> x.goesDown(0, false), x -> x.goesDown(4, false));
        row = "keep: IllegalStateException if no system was chosen";
        refused(STATE, NEW, Weightlattice::keep);
        row = "isBelow: IllegalStateException if no system was chosen";
        refused(STATE, NEW, Weightlattice::isBelow);
        row = "goesDown: IndexOutOfBoundsException if there is no such mirror";
        for (int s = 0; s < SYSTEMS; s++) {
            int n = RANKS[s];
            for (int bad : outside(n)) {
                refused(INDEX, busy(s), x -> x.goesDown(bad, true));
                refused(INDEX, busy(s), x -> x.goesDown(bad, false));
            }
            allowed(busy(s), x -> x.goesDown(0, true));
            allowed(busy(s), x -> x.goesDown(n - 1, false));
        }
    }

    private static Maker wordOf(int system, int size) {
        return () -> {
            Weightlattice x = busy(system).make();
            x.clear();
            for (int k = 0; k < size; k++) {
                x.put(k * k % RANKS[system]);
            }
            return x;
        };
    }

    private static void put() {
        row = "put: IllegalStateException if no system was chosen";
        noSystem(x -> x.put(0), x -> x.put(-1));
        for (int s = 0; s < SYSTEMS; s++) {
            int n = RANKS[s];
            row = "put: IndexOutOfBoundsException if there is no such mirror";
            for (int bad : outside(n)) {
                refused(INDEX, busy(s), x -> x.put(bad));
                row = "put: that row comes before UnsupportedOperationException";
                refused(INDEX, wordOf(s, 40), x -> x.put(bad));
            }
            row = "put: UnsupportedOperationException if it has 40";
            due(40, wordOf(s, 39), x -> x.put(n - 1));
            refused(UNSUPPORTED, wordOf(s, 40), x -> x.put(n - 1));
            refused(UNSUPPORTED, wordOf(s, 40), x -> x.put(0));
            due(1, wordOf(s, 40), x -> {
                x.clear();
                return x.put(0);
            });
        }
    }

    private static void reducedAt() {
        row = "reducedAt: IllegalStateException if no system was chosen";
        noSystem(x -> x.reducedAt(0), x -> x.reducedAt(-1));
        row = "reducedAt: IndexOutOfBoundsException if there is none at this index";
        for (int s = 0; s < SYSTEMS; s++) {
            for (int size : new int[] {0, 1, 2, 3, 13, 40}) {
                Maker maker = wordOf(s, size);
                int length = maker.make().length();
                for (int bad : outside(length)) {
                    if (bad < 0 || bad >= length) {
                        refused(INDEX, maker, x -> x.reducedAt(bad));
                    }
                }
                if (length > 0) {
                    allowed(maker, x -> x.reducedAt(0));
                    allowed(maker, x -> x.reducedAt(length - 1));
                }
            }
        }
        refused(INDEX, wordOf(A1, 2), x -> x.reducedAt(0));
        refused(INDEX, wordOf(A1, 3), x -> x.reducedAt(1));
    }

    private static Maker notBelow(int system) {
        return () -> {
            Weightlattice x = busy(system).make();
            x.clear();
            x.keep();
            x.put(0);
            return x;
        };
    }

    private static void polynomial() {
        row = "polynomial: IllegalStateException if no system was chosen";
        noSystem(x -> x.polynomial(0), x -> x.polynomial(10));
        for (int s = 0; s < SYSTEMS; s++) {
            boolean large = s == A4 || s == D4;
            for (int bad : outside(10)) {
                row = "polynomial: IllegalArgumentException if the power is out of range";
                refused(ARGUMENT, busy(s), x -> x.polynomial(bad));
                row = "polynomial: that row comes before NoSuchElementException";
                refused(ARGUMENT, notBelow(s), x -> x.polynomial(bad));
            }
            for (int power = 0; power <= 9; power++) {
                int at = power;
                if (large) {
                    row = "polynomial: UnsupportedOperationException if the group has more than 48 elements";
                    refused(UNSUPPORTED, busy(s), x -> x.polynomial(at));
                    row = "polynomial: that row comes before NoSuchElementException";
                    refused(UNSUPPORTED, notBelow(s), x -> x.polynomial(at));
                } else {
                    row = "polynomial: in system " + s;
                    due(at == 0 ? 1 : 0, busy(s), x -> x.polynomial(at));
                    row = "polynomial: NoSuchElementException if the one is not below the other one";
                    refused(MISSING, notBelow(s), x -> x.polynomial(at));
                }
            }
        }
        row = "polynomial: a group of 48 elements has no more than 48";
        due(48, busy(B3), Weightlattice::order);
        due(48, busy(C3), Weightlattice::order);
    }

    private static void set() {
        row = "set: IllegalStateException if no system was chosen";
        noSystem(x -> x.set(0, 0, 0), x -> x.set(4, -1, 10));
        refused(STATE, NEW, x -> x.set(0, 0, 10));
        for (int s = 0; s < SYSTEMS; s++) {
            Maker maker = busy(s);
            int n = RANKS[s];
            row = "set: IndexOutOfBoundsException if there is no such register or coordinate";
            for (int bad : outside(4)) {
                refused(INDEX, maker, x -> x.set(bad, 0, 1));
                refused(INDEX, maker, x -> x.set(bad, n, 1));
                refused(INDEX, maker, x -> x.set(bad, 0, 10));
            }
            for (int bad : outside(n)) {
                refused(INDEX, maker, x -> x.set(0, bad, 1));
                refused(INDEX, maker, x -> x.set(3, bad, -10));
            }
            row = "set: IllegalArgumentException if the coordinate is out of range";
            for (int bad : new int[] {LEAST, -65536, -256, -19, -11, -10, 10, 11, 256, 65536, MOST}) {
                refused(ARGUMENT, maker, x -> x.set(0, 0, bad));
                refused(ARGUMENT, maker, x -> x.set(3, n - 1, bad));
            }
            row = "set: just inside";
            for (int value : new int[] {-9, 9}) {
                due(value, maker, x -> {
                    x.set(3, n - 1, value);
                    return x.get(3, n - 1);
                });
                due(value, maker, x -> {
                    x.set(0, 0, value);
                    return x.get(0, 0);
                });
            }
        }
    }

    private static void weights() {
        row = "get: IllegalStateException if no system was chosen";
        noSystem(x -> x.get(0, 0), x -> x.get(-1, 4));
        row = "act: IllegalStateException if no system was chosen";
        noSystem(x -> x.act(0), x -> x.act(4));
        row = "raise: IllegalStateException if no system was chosen";
        noSystem(x -> x.raise(0), x -> x.raise(4));
        row = "orbit: IllegalStateException if no system was chosen";
        noSystem(x -> x.orbit(0), x -> x.orbit(4));
        row = "pairing: IllegalStateException if no system was chosen";
        noSystem(x -> x.pairing(0, 0), x -> x.pairing(4, -1));
        row = "isLower: IllegalStateException if no system was chosen";
        noSystem(x -> x.isLower(0, 0), x -> x.isLower(4, -1));
        for (int s = 0; s < SYSTEMS; s++) {
            Maker maker = busy(s);
            int n = RANKS[s];
            int roots = ROOTS[s];
            for (int bad : outside(4)) {
                badRegister(maker, bad, n, roots);
            }
            row = "get: IndexOutOfBoundsException if there is no such register or coordinate";
            for (int bad : outside(n)) {
                refused(INDEX, maker, x -> x.get(0, bad));
                refused(INDEX, maker, x -> x.get(3, bad));
            }
            row = "pairing: IndexOutOfBoundsException if there is no such register or root";
            for (int bad : outside(roots)) {
                refused(INDEX, maker, x -> x.pairing(0, bad));
                refused(INDEX, maker, x -> x.pairing(3, bad));
            }
            row = "just inside, in system " + s;
            for (int r = 0; r < 4; r += 3) {
                int register = r;
                allowed(maker, x -> x.get(register, n - 1));
                allowed(maker, x -> x.act(register));
                allowed(maker, x -> x.raise(register));
                allowed(maker, x -> x.orbit(register));
                allowed(maker, x -> x.pairing(register, roots - 1));
                allowed(maker, x -> x.isLower(register, 3 - register));
            }
        }
    }

    private static void badRegister(Maker maker, int bad, int n, int roots) {
        row = "get: IndexOutOfBoundsException if there is no such register or coordinate";
        refused(INDEX, maker, x -> x.get(bad, 0));
        refused(INDEX, maker, x -> x.get(bad, n));
        row = "act: IndexOutOfBoundsException if there is no such register";
        refused(INDEX, maker, x -> x.act(bad));
        row = "raise: IndexOutOfBoundsException if there is no such register";
        refused(INDEX, maker, x -> x.raise(bad));
        row = "orbit: IndexOutOfBoundsException if there is no such register";
        refused(INDEX, maker, x -> x.orbit(bad));
        row = "pairing: IndexOutOfBoundsException if there is no such register or root";
        refused(INDEX, maker, x -> x.pairing(bad, 0));
        refused(INDEX, maker, x -> x.pairing(bad, roots));
        row = "isLower: IndexOutOfBoundsException if there is no such register, for either";
        refused(INDEX, maker, x -> x.isLower(bad, 0));
        refused(INDEX, maker, x -> x.isLower(3, bad));
        refused(INDEX, maker, x -> x.isLower(bad, bad));
    }

    private static void dimension() {
        row = "dimension: IllegalStateException if no system was chosen";
        noSystem(x -> x.dimension(0), x -> x.dimension(4));
        row = "dimension: IndexOutOfBoundsException if there is no such register";
        for (int bad : outside(4)) {
            refused(INDEX, busy(D4), x -> x.dimension(bad));
        }
        row = "dimension: UnsupportedOperationException if the weight is not dominant";
        for (int s = 0; s < SYSTEMS; s++) {
            int number = s;
            due(LARGE_SIZES[s], with(s, LARGE[s]), x -> x.dimension(3));
            due(1, with(s, new int[RANKS[s]]), x -> x.dimension(3));
            if (TOO_LARGE[s] != null) {
                due(TOO_LARGE_SIZES[s], with(s, TOO_LARGE[s]), x -> x.dimension(3));
            }
            for (int i = 0; i < RANKS[s]; i++) {
                refused(UNSUPPORTED, with(s, negativeAt(number, i)), x -> x.dimension(3));
            }
        }
        refused(UNSUPPORTED, beyond(), x -> x.dimension(3));
    }

    /** 9 everywhere but for a place that has -1. */
    private static int[] negativeAt(int system, int place) {
        int[] weight = new int[RANKS[system]];
        for (int i = 0; i < weight.length; i++) {
            weight[i] = i == place ? -1 : 9;
        }
        return weight;
    }

    private static void multiplicity() {
        row = "multiplicity: IllegalStateException if no system was chosen";
        noSystem(x -> x.multiplicity(0, 0), x -> x.multiplicity(4, -1));
        for (int bad : outside(4)) {
            row = "multiplicity: IndexOutOfBoundsException if there is no such register, for either";
            refused(INDEX, busy(A3), x -> x.multiplicity(bad, 0));
            refused(INDEX, busy(A3), x -> x.multiplicity(0, bad));
            row = "multiplicity: that row comes before UnsupportedOperationException";
            refused(INDEX, busy(A3), x -> x.multiplicity(1, bad));
            row = "multiplicity: that row comes before ArithmeticException";
            refused(INDEX, with(A3, TOO_LARGE[A3]), x -> x.multiplicity(3, bad));
        }
        for (int s = 0; s < SYSTEMS; s++) {
            row = "multiplicity: UnsupportedOperationException if the highest weight is not dominant";
            for (int i = 0; i < RANKS[s]; i++) {
                refused(UNSUPPORTED, with(s, negativeAt(s, i)), x -> x.multiplicity(3, 0));
                due(s == A1 ? 1 : 0, with(s, negativeAt(s, i)), x -> x.multiplicity(0, 3));
            }
            row = "multiplicity: ArithmeticException if its dimension is greater than 300";
            due(1, with(s, LARGE[s]), x -> x.multiplicity(3, 3));
            if (TOO_LARGE[s] != null) {
                refused(ARITHMETIC, with(s, TOO_LARGE[s]), x -> x.multiplicity(3, 3));
                due(0, with(s, TOO_LARGE[s]), x -> x.multiplicity(0, 3));
            }
        }
        row = "multiplicity: a coordinate of 31 comes before a dimension greater than 300";
        refused(UNSUPPORTED, beyond(), x -> x.multiplicity(3, 3));
        due(0, beyond(), x -> x.multiplicity(0, 3));
    }

    private static void dominant() {
        row = "dominant: IllegalStateException if no system was chosen";
        noSystem(x -> x.dominant(0), x -> x.dominant(4));
        row = "dominant: IndexOutOfBoundsException if there is no such register";
        for (int bad : outside(4)) {
            refused(INDEX, busy(G2), x -> x.dominant(bad));
        }
        for (int s = 0; s < SYSTEMS; s++) {
            row = "dominant: UnsupportedOperationException if the weight is not dominant";
            for (int i = 0; i < RANKS[s]; i++) {
                refused(UNSUPPORTED, with(s, negativeAt(s, i)), x -> x.dominant(3));
            }
            row = "dominant: ArithmeticException if its dimension is greater than 300";
            allowed(with(s, LARGE[s]), x -> x.dominant(3));
            if (TOO_LARGE[s] != null) {
                refused(ARITHMETIC, with(s, TOO_LARGE[s]), x -> x.dominant(3));
            }
        }
        row = "dominant: a coordinate of 31 comes before a dimension greater than 300";
        refused(UNSUPPORTED, beyond(), x -> x.dominant(3));
    }

    private static void multiply() {
        row = "multiply: IllegalStateException if no system was chosen";
        noSystem(x -> x.multiply(0, 0), x -> x.multiply(4, -1));
        for (int bad : outside(4)) {
            row = "multiply: IndexOutOfBoundsException if there is no such register, for either";
            refused(INDEX, busy(A3), x -> x.multiply(bad, 0));
            refused(INDEX, busy(A3), x -> x.multiply(0, bad));
            row = "multiply: that row comes before UnsupportedOperationException";
            refused(INDEX, busy(A3), x -> x.multiply(1, bad));
            refused(INDEX, busy(A3), x -> x.multiply(bad, 1));
            row = "multiply: that row comes before ArithmeticException";
            refused(INDEX, with(A3, TOO_LARGE[A3]), x -> x.multiply(3, bad));
        }
        for (int s = 0; s < SYSTEMS; s++) {
            row = "multiply: UnsupportedOperationException if a weight is not dominant";
            for (int i = 0; i < RANKS[s]; i++) {
                refused(UNSUPPORTED, with(s, negativeAt(s, i)), x -> x.multiply(3, 0));
                refused(UNSUPPORTED, with(s, negativeAt(s, i)), x -> x.multiply(0, 3));
            }
            row = "multiply: ArithmeticException if the dimension of the one module is greater than 300";
            allowed(with(s, LARGE[s]), x -> x.multiply(3, 0));
            if (TOO_LARGE[s] != null) {
                refused(ARITHMETIC, with(s, TOO_LARGE[s]), x -> x.multiply(3, 0));
                allowed(with(s, TOO_LARGE[s]), x -> x.multiply(0, 3));
                row = "multiply: UnsupportedOperationException comes before that row";
                refused(UNSUPPORTED, with(s, TOO_LARGE[s]), x -> x.multiply(3, 1));
            }
        }
        row = "multiply: a coordinate of 31 in either";
        refused(UNSUPPORTED, beyond(), x -> x.multiply(3, 0));
        refused(UNSUPPORTED, beyond(), x -> x.multiply(0, 3));
    }

    private static void fuse() {
        row = "fuse: IllegalStateException if no system was chosen";
        noSystem(x -> x.fuse(0, 0, 0), x -> x.fuse(4, -1, 51));
        for (int bad : outside(4)) {
            row = "fuse: IndexOutOfBoundsException if there is no such register, for either";
            refused(INDEX, busy(A3), x -> x.fuse(bad, 0, 9));
            refused(INDEX, busy(A3), x -> x.fuse(0, bad, 9));
            row = "fuse: that row comes before UnsupportedOperationException";
            refused(INDEX, busy(A3), x -> x.fuse(1, bad, 9));
            row = "fuse: that row comes before IllegalArgumentException";
            refused(INDEX, busy(A3), x -> x.fuse(0, bad, 51));
            refused(INDEX, busy(A3), x -> x.fuse(bad, 3, 1));
            row = "fuse: that row comes before ArithmeticException";
            refused(INDEX, with(A3, TOO_LARGE[A3]), x -> x.fuse(3, bad, 9));
        }
        for (int s = 0; s < SYSTEMS; s++) {
            row = "fuse: UnsupportedOperationException if a weight is not dominant";
            for (int i = 0; i < RANKS[s]; i++) {
                Maker maker = with(s, negativeAt(s, i));
                refused(UNSUPPORTED, maker, x -> x.fuse(3, 0, 50));
                refused(UNSUPPORTED, maker, x -> x.fuse(0, 3, 50));
                row = "fuse: that row comes before IllegalArgumentException";
                refused(UNSUPPORTED, maker, x -> x.fuse(3, 0, 51));
                refused(UNSUPPORTED, maker, x -> x.fuse(0, 3, -1));
                refused(UNSUPPORTED, maker, x -> x.fuse(3, 0, 0));
                refused(UNSUPPORTED, maker, x -> x.fuse(0, 3, 0));
            }
            row = "fuse: ArithmeticException if the dimension of the one module is greater than 300";
            allowed(with(s, LARGE[s]), x -> x.fuse(3, 0, 50));
            if (TOO_LARGE[s] != null) {
                refused(ARITHMETIC, with(s, TOO_LARGE[s]), x -> x.fuse(3, 0, 50));
                allowed(with(s, TOO_LARGE[s]), x -> x.fuse(0, 3, 50));
                row = "fuse: IllegalArgumentException comes before that row";
                refused(ARGUMENT, with(s, TOO_LARGE[s]), x -> x.fuse(3, 0, 51));
                refused(ARGUMENT, with(s, TOO_LARGE[s]), x -> x.fuse(3, 0, 2));
                row = "fuse: UnsupportedOperationException comes before that row";
                refused(UNSUPPORTED, with(s, TOO_LARGE[s]), x -> x.fuse(3, 1, 50));
            }
        }
        row = "fuse: a coordinate of 31 in either comes before a level that is less than its pairing";
        refused(UNSUPPORTED, beyond(), x -> x.fuse(3, 0, 30));
        refused(UNSUPPORTED, beyond(), x -> x.fuse(0, 3, 30));
    }

    private static void fuseLevels() {
        row = "fuse: IllegalArgumentException if the level is out of range";
        for (int s = 0; s < SYSTEMS; s++) {
            int[] zero = new int[RANKS[s]];
            for (int bad : outside(51)) {
                refused(ARGUMENT, busy(s), x -> x.fuse(0, 2, bad));
                refused(ARGUMENT, with(s, zero), x -> x.fuse(3, 3, bad));
            }
            due(1, with(s, zero), x -> x.fuse(3, 3, 0));
            due(1, with(s, zero), x -> x.fuse(3, 3, 50));
        }
        for (int s = 0; s < SYSTEMS; s++) {
            for (int i = 0; i < RANKS[s]; i++) {
                for (int value = 1; value <= 9; value += 4) {
                    levelOf(s, i, value);
                }
            }
        }
    }

    /** Register 1 has no coordinate but 0, so that either weight is the one that pairs to more. */
    private static void levelOf(int s, int place, int value) {
        int[] weight = new int[RANKS[s]];
        weight[place] = value;
        int least = LEVELS[s][place] * value;
        Maker maker = () -> {
            Weightlattice x = with(s, weight).make();
            for (int i = 0; i < RANKS[s]; i++) {
                x.set(1, i, 0);
            }
            return x;
        };
        row = "fuse: IllegalArgumentException if the level is less than the pairing of either weight with the highest root";
        refused(ARGUMENT, maker, x -> x.fuse(1, 3, least - 1));
        refused(ARGUMENT, maker, x -> x.fuse(3, 1, least - 1));
        refused(ARGUMENT, maker, x -> x.fuse(3, 3, least - 1));
        due(1, maker, x -> x.fuse(1, 3, least));
        if (maker.make().dimension(3) <= 300) {
            due(1, maker, x -> x.fuse(3, 1, least));
        } else {
            refused(ARITHMETIC, maker, x -> x.fuse(3, 1, least));
        }
    }

    private static void branch() {
        row = "branch: IllegalStateException if no system was chosen";
        noSystem(x -> x.branch(0, 0), x -> x.branch(4, -1));
        row = "branch: IndexOutOfBoundsException if there is no such register or mirror";
        for (int bad : outside(4)) {
            refused(INDEX, busy(A3), x -> x.branch(bad, 0));
            refused(INDEX, busy(A3), x -> x.branch(bad, 3));
        }
        for (int s = 0; s < SYSTEMS; s++) {
            int n = RANKS[s];
            for (int bad : outside(n)) {
                row = "branch: IndexOutOfBoundsException if there is no such register or mirror";
                refused(INDEX, busy(s), x -> x.branch(0, bad));
                row = "branch: that row comes before UnsupportedOperationException";
                refused(INDEX, busy(s), x -> x.branch(1, bad));
                row = "branch: that row comes before ArithmeticException";
                if (TOO_LARGE[s] != null) {
                    refused(INDEX, with(s, TOO_LARGE[s]), x -> x.branch(3, bad));
                }
            }
            row = "branch: UnsupportedOperationException if the weight is not dominant";
            for (int i = 0; i < n; i++) {
                int place = i;
                refused(UNSUPPORTED, with(s, negativeAt(s, i)), x -> x.branch(3, place));
                refused(UNSUPPORTED, with(s, negativeAt(s, i)), x -> x.branch(3, n - 1 - place));
            }
            row = "branch: ArithmeticException if its dimension is greater than 300";
            for (int i = 0; i < n; i++) {
                int mirror = i;
                allowed(with(s, LARGE[s]), x -> x.branch(3, mirror));
                if (TOO_LARGE[s] != null) {
                    refused(ARITHMETIC, with(s, TOO_LARGE[s]), x -> x.branch(3, mirror));
                }
            }
        }
        row = "branch: a coordinate of 31 comes before a dimension greater than 300";
        refused(UNSUPPORTED, beyond(), x -> x.branch(3, 0));
    }

    /** In busy A2 the product has 2 parts, and at most 3 in any system. */
    private static void parts() {
        row = "partAt: IllegalStateException if no system was chosen";
        noSystem(x -> x.partAt(0, 0), x -> x.partAt(-1, 4));
        row = "times: IllegalStateException if no system was chosen";
        noSystem(x -> x.times(0), x -> x.times(-1));
        for (int s = 0; s < SYSTEMS; s++) {
            Maker maker = busy(s);
            int n = RANKS[s];
            int count = maker.make().multiply(0, 2);
            for (int bad : outside(count)) {
                row = "partAt: IndexOutOfBoundsException if there is no such part or coordinate";
                refused(INDEX, maker, x -> x.partAt(bad, 0));
                refused(INDEX, maker, x -> x.partAt(bad, n));
                row = "times: IndexOutOfBoundsException if there is no such part";
                refused(INDEX, maker, x -> x.times(bad));
            }
            row = "partAt: IndexOutOfBoundsException if there is no such part or coordinate";
            for (int bad : outside(n)) {
                refused(INDEX, maker, x -> x.partAt(0, bad));
                refused(INDEX, maker, x -> x.partAt(count - 1, bad));
            }
            allowed(maker, x -> x.partAt(0, n - 1));
            allowed(maker, x -> x.partAt(count - 1, 0));
            allowed(maker, x -> x.times(0));
            allowed(maker, x -> x.times(count - 1));
            Maker fresh = chosen(s);
            refused(INDEX, fresh, x -> x.partAt(0, 0));
            row = "times: IndexOutOfBoundsException if there is no such part";
            refused(INDEX, fresh, x -> x.times(0));
        }
    }

    private static Maker chosen(int system) {
        return () -> {
            Weightlattice x = new Weightlattice();
            x.choose(TYPES[system], RANKS[system]);
            return x;
        };
    }

    private static void figures() {
        row = "meanLength: IllegalStateException if no system was chosen";
        refused(STATE, NEW, Weightlattice::meanLength);
        row = "isConsistent: IllegalStateException if no system was chosen";
        refused(STATE, NEW, Weightlattice::isConsistent);
        row = "ratio: IllegalStateException if no system was chosen";
        noSystem(x -> x.ratio(0, 0), x -> x.ratio(4, -1));
        for (int bad : outside(4)) {
            row = "ratio: IndexOutOfBoundsException if there is no such register, for either";
            refused(INDEX, busy(A3), x -> x.ratio(bad, 0));
            refused(INDEX, busy(A3), x -> x.ratio(0, bad));
            row = "ratio: that row comes before UnsupportedOperationException";
            refused(INDEX, busy(A3), x -> x.ratio(1, bad));
            refused(INDEX, busy(A3), x -> x.ratio(bad, 1));
        }
        row = "ratio: UnsupportedOperationException if a weight is not dominant";
        for (int s = 0; s < SYSTEMS; s++) {
            for (int i = 0; i < RANKS[s]; i++) {
                refused(UNSUPPORTED, with(s, negativeAt(s, i)), x -> x.ratio(3, 0));
                refused(UNSUPPORTED, with(s, negativeAt(s, i)), x -> x.ratio(0, 3));
            }
            due(1.0, with(s, LARGE[s]), x -> x.ratio(3, 3));
        }
        refused(UNSUPPORTED, beyond(), x -> x.ratio(3, 0));
        refused(UNSUPPORTED, beyond(), x -> x.ratio(0, 3));
        row = "clear and type throw nothing";
        due(0, NEW, Weightlattice::clear);
        due('-', NEW, Weightlattice::type);
    }
}
