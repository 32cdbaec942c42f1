import java.util.NoSuchElementException;

/** A hall of roots and mirrors: what it promises is told in ../shared/DOC.md. */
public final class Weightlattice {
    private static final int MOST_RANK = 4;
    private static final int MOST_ROOTS = 12;
    private static final int REGISTERS = 4;
    private static final int MOST_IN_WORD = 40;
    private static final int MOST_POWER = 9;
    private static final int MOST_ELEMENTS = 48;
    private static final int MOST_SET = 9;
    private static final int MOST_COORDINATE = 30;
    private static final int MOST_DIMENSION = 300;
    private static final int MOST_CHECKED_DIMENSION = 60;
    private static final int MOST_LEVEL = 50;
    private static final int NONE = -1;
    private static final int NO_WALL = 0;

    private final Roots roots;
    private final Word word;
    private final Polynomials polynomials;
    private final Weights module;
    private final Splitter splitter;
    private final Checker checker;
    private final Register[] registers;
    private final Register spare;
    private final long[] kept;
    private final long[] here;
    private final long[] there;

    public Weightlattice() {
        roots = new Roots();
        word = new Word(roots);
        polynomials = new Polynomials(roots);
        module = new Weights(roots);
        splitter = new Splitter(roots);
        checker = new Checker(roots);
        registers = new Register[REGISTERS];
        for (int r = 0; r < REGISTERS; r++) {
            registers[r] = new Register(roots);
        }
        spare = new Register(roots);
        kept = new long[MOST_RANK];
        here = new long[MOST_RANK];
        there = new long[MOST_RANK];
    }

    // ---- systems and roots

    public int choose(char type, int rank) throws IllegalArgumentException {
        if (!Roots.hasSystem(type, rank)) {
            throw new IllegalArgumentException("no such system");
        }
        roots.build(type, rank);
        word.size = 0;
        polynomials.forget();
        module.forget();
        splitter.parts.empty();
        copy(roots.rho, kept);
        for (int r = 0; r < REGISTERS; r++) {
            registers[r].empty();
        }
        return roots.count;
    }

    public int matrix(int i, int j) throws IllegalStateException, IndexOutOfBoundsException {
        requireSystem();
        requireSimple(i);
        requireSimple(j);
        return roots.matrix[i][j];
    }

    public int coefficient(int root, int i) throws IllegalStateException, IndexOutOfBoundsException {
        requireSystem();
        requireRoot(root);
        requireSimple(i);
        return roots.coefficients[root][i];
    }

    public int square(int root) throws IllegalStateException, IndexOutOfBoundsException {
        requireSystem();
        requireRoot(root);
        return roots.squares[root];
    }

    public int exponent(int index) throws IllegalStateException, IndexOutOfBoundsException {
        requireSystem();
        requireSimple(index);
        return roots.exponents[index];
    }

    public long order() throws IllegalStateException {
        requireSystem();
        return roots.groupSize;
    }

    // ---- words

    public int put(int mirror) throws IllegalStateException, IndexOutOfBoundsException, UnsupportedOperationException {
        requireSystem();
        requireSimple(mirror);
        if (word.size >= MOST_IN_WORD) {
            throw new UnsupportedOperationException("the word is full");
        }
        word.mirrors[word.size] = mirror;
        word.size++;
        return word.size;
    }

    public int clear() {
        int had = word.size;
        word.size = 0;
        return had;
    }

    public int length() throws IllegalStateException {
        requireSystem();
        word.elementInto(here);
        return roots.negativeOn(here);
    }

    public int reducedAt(int index) throws IllegalStateException, IndexOutOfBoundsException {
        requireSystem();
        word.elementInto(here);
        if (index < 0 || index >= roots.negativeOn(here)) {
            throw new IndexOutOfBoundsException("no mirror at this index");
        }
        for (int k = 0; k < index; k++) {
            roots.liftOnce(here);
        }
        return roots.firstBelowZero(here);
    }

    public boolean goesDown(int mirror, boolean before) throws IllegalStateException, IndexOutOfBoundsException {
        requireSystem();
        requireSimple(mirror);
        if (before) {
            word.elementInto(here);
        } else {
            word.inverseInto(here);
        }
        return here[mirror] < 0;
    }

    public int keep() throws IllegalStateException {
        requireSystem();
        int before = roots.negativeOn(kept);
        word.elementInto(kept);
        return before;
    }

    public boolean isBelow() throws IllegalStateException {
        requireSystem();
        return wordIsUnderKept();
    }

    public int polynomial(int power) throws IllegalStateException, IllegalArgumentException, UnsupportedOperationException, NoSuchElementException {
        requireSystem();
        if (power < 0 || power > MOST_POWER) {
            throw new IllegalArgumentException("the power is out of range");
        }
        if (roots.groupSize > MOST_ELEMENTS) {
            throw new UnsupportedOperationException("the group is too large");
        }
        if (!wordIsUnderKept()) {
            throw new NoSuchElementException("the element is not below the kept one");
        }
        word.elementInto(here);
        return polynomials.digit(here, kept, power);
    }

    // ---- weights

    public int set(int register, int index, int value) throws IllegalStateException, IndexOutOfBoundsException, IllegalArgumentException {
        requireSystem();
        requireRegister(register);
        requireSimple(index);
        if (value < -MOST_SET || value > MOST_SET) {
            throw new IllegalArgumentException("the coordinate is out of range");
        }
        int before = registers[register].low(index);
        registers[register].write(index, value);
        return before;
    }

    public int get(int register, int index) throws IllegalStateException, IndexOutOfBoundsException {
        requireSystem();
        requireRegister(register);
        requireSimple(index);
        return registers[register].low(index);
    }

    public int act(int register) throws IllegalStateException, IndexOutOfBoundsException {
        requireSystem();
        requireRegister(register);
        spare.become(registers[register]);
        word.actOn(registers[register]);
        return spare.differences(registers[register]);
    }

    public int raise(int register) throws IllegalStateException, IndexOutOfBoundsException {
        requireSystem();
        requireRegister(register);
        return registers[register].lift();
    }

    public int orbit(int register) throws IllegalStateException, IndexOutOfBoundsException {
        requireSystem();
        requireRegister(register);
        liftedInto(here, register);
        return (int) roots.orbitSize(here);
    }

    public int pairing(int register, int root) throws IllegalStateException, IndexOutOfBoundsException {
        requireSystem();
        requireRegister(register);
        requireRoot(root);
        for (int i = 0; i < MOST_RANK; i++) {
            here[i] = registers[register].low(i);
        }
        return (int) roots.pair(here, root);
    }

    public boolean isLower(int one, int other) throws IllegalStateException, IndexOutOfBoundsException {
        requireSystem();
        requireRegister(one);
        requireRegister(other);
        spare.become(registers[other]);
        spare.takeAway(registers[one]);
        return spare.isSumOfSimple();
    }

    // ---- modules

    public long dimension(int register) throws IllegalStateException, IndexOutOfBoundsException, UnsupportedOperationException {
        requireSystem();
        requireRegister(register);
        requireDominant(register);
        return moduleSize(register);
    }

    public int multiplicity(int register, int other) throws IllegalStateException, IndexOutOfBoundsException, UnsupportedOperationException, ArithmeticException {
        requireSystem();
        requireRegister(register);
        requireRegister(other);
        requireDominant(register);
        requireSmall(register);
        module.take(registers[register]);
        liftedInto(here, other);
        return module.countOf(here);
    }

    public int dominant(int register) throws IllegalStateException, IndexOutOfBoundsException, UnsupportedOperationException, ArithmeticException {
        requireSystem();
        requireRegister(register);
        requireDominant(register);
        requireSmall(register);
        module.take(registers[register]);
        return module.dominants;
    }

    public int multiply(int one, int other) throws IllegalStateException, IndexOutOfBoundsException, UnsupportedOperationException, ArithmeticException {
        requireSystem();
        requireRegister(one);
        requireRegister(other);
        requireDominant(one);
        requireDominant(other);
        requireSmall(one);
        module.take(registers[one]);
        registers[other].nearInto(here);
        splitter.split(module, here, NONE, NO_WALL);
        return splitter.parts.size;
    }

    public int fuse(int one, int other, int level) throws IllegalStateException, IndexOutOfBoundsException, UnsupportedOperationException, IllegalArgumentException, ArithmeticException {
        requireSystem();
        requireRegister(one);
        requireRegister(other);
        requireDominant(one);
        requireDominant(other);
        requireLevel(level, one, other);
        requireSmall(one);
        module.take(registers[one]);
        registers[other].nearInto(here);
        splitter.split(module, here, NONE, level + roots.dualCoxeter());
        return splitter.parts.size;
    }

    public int branch(int register, int mirror) throws IllegalStateException, IndexOutOfBoundsException, UnsupportedOperationException, ArithmeticException {
        requireSystem();
        requireRegister(register);
        requireSimple(mirror);
        requireDominant(register);
        requireSmall(register);
        module.take(registers[register]);
        for (int i = 0; i < MOST_RANK; i++) {
            here[i] = 0;
        }
        splitter.split(module, here, mirror, NO_WALL);
        return splitter.parts.size;
    }

    public int partAt(int part, int index) throws IllegalStateException, IndexOutOfBoundsException {
        requireSystem();
        requirePart(part);
        requireSimple(index);
        return Keys.coordinate(splitter.parts.keys[part], index);
    }

    public int times(int part) throws IllegalStateException, IndexOutOfBoundsException {
        requireSystem();
        requirePart(part);
        return splitter.parts.counts[part];
    }

    // ---- figures

    public float meanLength() throws IllegalStateException {
        requireSystem();
        return (float) roots.count / (float) 2;
    }

    public double ratio(int one, int other) throws IllegalStateException, IndexOutOfBoundsException, UnsupportedOperationException {
        requireSystem();
        requireRegister(one);
        requireRegister(other);
        requireDominant(one);
        requireDominant(other);
        return (double) moduleSize(one) / (double) moduleSize(other);
    }

    public char type() {
        return roots.letter;
    }

    public boolean isConsistent() throws IllegalStateException {
        requireSystem();
        if (roots.exponentProduct() != roots.groupSize) {
            return false;
        }
        if (!isHighest(0)) {
            return true;
        }
        long dimension = moduleSize(0);
        if (dimension > MOST_CHECKED_DIMENSION) {
            return true;
        }
        module.take(registers[0]);
        return module.countAll() == dimension && checker.agrees(module);
    }

    // ---- what calls ask for first

    private void requireSystem() {
        if (roots.rank == 0) {
            throw new IllegalStateException("no system was chosen");
        }
    }

    private void requireSimple(int index) {
        if (index < 0 || index >= roots.rank) {
            throw new IndexOutOfBoundsException("no such simple root");
        }
    }

    private void requireRoot(int root) {
        if (root < 0 || root >= roots.count) {
            throw new IndexOutOfBoundsException("no such root");
        }
    }

    private void requireRegister(int register) {
        if (register < 0 || register >= REGISTERS) {
            throw new IndexOutOfBoundsException("no such register");
        }
    }

    private void requirePart(int part) {
        if (part < 0 || part >= splitter.parts.size) {
            throw new IndexOutOfBoundsException("no such part");
        }
    }

    private void requireDominant(int register) {
        if (!isHighest(register)) {
            throw new UnsupportedOperationException("the weight is not dominant");
        }
    }

    private void requireSmall(int register) {
        if (moduleSize(register) > MOST_DIMENSION) {
            throw new ArithmeticException("the dimension is too great");
        }
    }

    private void requireLevel(int level, int one, int other) {
        if (level < 0 || level > MOST_LEVEL) {
            throw new IllegalArgumentException("the level is out of range");
        }
        registers[one].nearInto(here);
        registers[other].nearInto(there);
        int highest = roots.count - 1;
        if (level < roots.pair(here, highest) || level < roots.pair(there, highest)) {
            throw new IllegalArgumentException("the level is less than a pairing");
        }
    }

    private boolean wordIsUnderKept() {
        word.elementInto(here);
        copy(kept, there);
        return roots.isUnder(here, there);
    }

    // ---- registers as rows of machine numbers

    private boolean isHighest(int register) {
        registers[register].nearInto(here);
        return roots.isHighest(here);
    }

    private long moduleSize(int register) {
        registers[register].nearInto(here);
        return roots.dimensionOf(here);
    }

    private void liftedInto(long[] row, int register) {
        spare.become(registers[register]);
        spare.lift();
        spare.nearInto(row);
    }

    private static void copy(long[] from, long[] into) {
        for (int i = 0; i < MOST_RANK; i++) {
            into[i] = from[i];
        }
    }

    /** A system: its matrix, its positive roots, and what mirrors and roots do with weights. */
    private static final class Roots {
        private char letter;
        private int rank;
        private int count;
        private int squareSum;
        private long groupSize;
        private final int[][] matrix;
        private final int[][] coefficients;
        private final int[][] weights;
        private final int[][] coroots;
        private final int[] squares;
        private final int[] sums;
        private final int[] exponents;
        private final long[] rho;
        private final int[] candidate;

        Roots() {
            letter = '-';
            matrix = new int[MOST_RANK][MOST_RANK];
            coefficients = new int[MOST_ROOTS][MOST_RANK];
            weights = new int[MOST_ROOTS][MOST_RANK];
            coroots = new int[MOST_ROOTS][MOST_RANK];
            squares = new int[MOST_ROOTS];
            sums = new int[MOST_ROOTS];
            exponents = new int[MOST_RANK];
            rho = new long[MOST_RANK];
            candidate = new int[MOST_RANK];
        }

        static boolean hasSystem(char type, int rank) {
            if (type == 'A') {
                return rank >= 1 && rank <= 4;
            }
            if (type == 'B') {
                return rank == 2 || rank == 3;
            }
            return type == 'C' && rank == 3 || type == 'D' && rank == 4 || type == 'G' && rank == 2;
        }

        void build(char newLetter, int newRank) {
            letter = newLetter;
            rank = newRank;
            for (int i = 0; i < MOST_RANK; i++) {
                rho[i] = i < rank ? 1 : 0;
            }
            fillMatrix();
            findRoots();
            sortRoots();
            measureRoots();
            findExponents();
            groupSize = orbitSize(rho);
        }

        private void fillMatrix() {
            for (int i = 0; i < MOST_RANK; i++) {
                for (int j = 0; j < MOST_RANK; j++) {
                    matrix[i][j] = i < rank && j < rank ? plainEntry(i, j) : 0;
                }
            }
            if (letter == 'B') {
                matrix[rank - 2][rank - 1] = -2;
            } else if (letter == 'C') {
                matrix[rank - 1][rank - 2] = -2;
            } else if (letter == 'G') {
                matrix[1][0] = -3;
            }
        }

        private int plainEntry(int i, int j) {
            if (i == j) {
                return 2;
            }
            if (letter == 'D') {
                return i == 1 || j == 1 ? -1 : 0;
            }
            return i - j == 1 || j - i == 1 ? -1 : 0;
        }

        private int simpleSquare(int i) {
            if (letter == 'B') {
                return i == rank - 1 ? 2 : 4;
            }
            if (letter == 'C') {
                return i == rank - 1 ? 4 : 2;
            }
            return letter == 'G' && i == 1 ? 6 : 2;
        }

        /** Each positive root comes of a simple one by mirrors that only make it greater. */
        private void findRoots() {
            count = 0;
            for (int i = 0; i < rank; i++) {
                for (int j = 0; j < MOST_RANK; j++) {
                    candidate[j] = i == j ? 1 : 0;
                }
                enterCandidate();
            }
            for (int r = 0; r < count && r < MOST_ROOTS; r++) {
                for (int i = 0; i < rank; i++) {
                    climb(r, i);
                }
            }
        }

        private void climb(int root, int mirror) {
            int coordinate = weightOf(root, mirror);
            if (coordinate >= 0) {
                return;
            }
            for (int j = 0; j < MOST_RANK; j++) {
                candidate[j] = coefficients[root][j];
            }
            candidate[mirror] -= coordinate;
            enterCandidate();
        }

        private int weightOf(int root, int index) {
            int coordinate = 0;
            for (int i = 0; i < rank; i++) {
                coordinate += coefficients[root][i] * matrix[i][index];
            }
            return coordinate;
        }

        private void enterCandidate() {
            for (int r = 0; r < count; r++) {
                if (sameAsCandidate(coefficients[r])) {
                    return;
                }
            }
            if (count >= MOST_ROOTS) {
                return;
            }
            int sum = 0;
            for (int i = 0; i < MOST_RANK; i++) {
                coefficients[count][i] = candidate[i];
                sum += candidate[i];
            }
            sums[count] = sum;
            count++;
        }

        private boolean sameAsCandidate(int[] row) {
            for (int i = 0; i < MOST_RANK; i++) {
                if (row[i] != candidate[i]) {
                    return false;
                }
            }
            return true;
        }

        private void sortRoots() {
            for (int r = 1; r < count; r++) {
                for (int k = r; k > 0 && comesBefore(k, k - 1); k--) {
                    int[] row = coefficients[k];
                    coefficients[k] = coefficients[k - 1];
                    coefficients[k - 1] = row;
                    int sum = sums[k];
                    sums[k] = sums[k - 1];
                    sums[k - 1] = sum;
                }
            }
        }

        private boolean comesBefore(int one, int other) {
            if (sums[one] != sums[other]) {
                return sums[one] < sums[other];
            }
            for (int i = 0; i < rank; i++) {
                if (coefficients[one][i] != coefficients[other][i]) {
                    return coefficients[one][i] > coefficients[other][i];
                }
            }
            return false;
        }

        private void measureRoots() {
            squareSum = 0;
            for (int r = 0; r < count; r++) {
                int twice = 0;
                for (int i = 0; i < MOST_RANK; i++) {
                    weights[r][i] = i < rank ? weightOf(r, i) : 0;
                    twice += coefficients[r][i] * weights[r][i] * simpleSquare(i);
                }
                squares[r] = twice / 2;
                squareSum += squares[r];
                for (int i = 0; i < MOST_RANK; i++) {
                    coroots[r][i] = squares[r] == 0 ? 0 : coefficients[r][i] * simpleSquare(i) / squares[r];
                }
            }
        }

        /** The exponents and the numbers of roots by sums are partitions that mirror each other. */
        private void findExponents() {
            for (int i = 0; i < MOST_RANK; i++) {
                exponents[i] = 0;
            }
            for (int sum = 1; sum <= MOST_ROOTS; sum++) {
                int withSum = 0;
                for (int r = 0; r < count; r++) {
                    if (sums[r] == sum) {
                        withSum++;
                    }
                }
                for (int i = 0; i < rank; i++) {
                    if (i >= rank - withSum) {
                        exponents[i]++;
                    }
                }
            }
        }

        long exponentProduct() {
            long product = 1;
            for (int i = 0; i < rank; i++) {
                product *= exponents[i] + 1;
            }
            return product;
        }

        void mirrorAt(long[] x, int mirror) {
            long coordinate = x[mirror];
            for (int j = 0; j < rank; j++) {
                x[j] -= coordinate * matrix[mirror][j];
            }
        }

        int firstBelowZero(long[] x) {
            for (int i = 0; i < rank; i++) {
                if (x[i] < 0) {
                    return i;
                }
            }
            return NONE;
        }

        boolean liftOnce(long[] x) {
            int mirror = firstBelowZero(x);
            if (mirror == NONE) {
                return false;
            }
            mirrorAt(x, mirror);
            return true;
        }

        /** Each such mirror makes one root fewer negative on x. */
        void lift(long[] x) {
            boolean lifted = true;
            for (int step = 0; step < count && lifted; step++) {
                lifted = liftOnce(x);
            }
        }

        long pair(long[] x, int root) {
            long sum = 0;
            for (int i = 0; i < rank; i++) {
                sum += x[i] * coroots[root][i];
            }
            return sum;
        }

        int negativeOn(long[] x) {
            int negative = 0;
            for (int r = 0; r < count; r++) {
                if (pair(x, r) < 0) {
                    negative++;
                }
            }
            return negative;
        }

        /**
         * Elements are held as what they make of rho; if w goes down by a mirror, x is below w if the lower of x and
         * its image is below the lower w.
         */
        boolean isUnder(long[] x, long[] w) {
            for (int k = 0; k < count; k++) {
                int mirror = firstBelowZero(w);
                if (mirror == NONE) {
                    break;
                }
                mirrorAt(w, mirror);
                if (x[mirror] < 0) {
                    mirrorAt(x, mirror);
                }
            }
            for (int i = 0; i < rank; i++) {
                if (x[i] != w[i]) {
                    return false;
                }
            }
            return true;
        }

        /**
         * The product of (sum + 1) / sum over all roots is the order of the group; those that pair to 0 with a
         * dominant x make up the group that leaves x as it is.
         */
        long orbitSize(long[] x) {
            long upper = 1;
            long lower = 1;
            for (int r = 0; r < count; r++) {
                if (pair(x, r) != 0) {
                    upper *= sums[r] + 1;
                    lower *= sums[r];
                }
            }
            return lower == 0 ? 0 : upper / lower;
        }

        /** Coefficients come of coordinates by these and shareDivisor: the sum of (x, root) root is a multiple of x. */
        int share(int coordinate, int simple) {
            int sum = 0;
            for (int r = 0; r < count; r++) {
                sum += coroots[r][coordinate] * squares[r] * coefficients[r][simple];
            }
            return rank * sum;
        }

        int shareDivisor() {
            return 2 * squareSum;
        }

        /** As (x, x), but times 4 * squareSum / rank, so that it is whole. */
        long norm(long[] x) {
            long sum = 0;
            for (int r = 0; r < count; r++) {
                long twice = pair(x, r) * squares[r];
                sum += twice * twice;
            }
            return sum;
        }

        boolean isHighest(long[] x) {
            for (int i = 0; i < rank; i++) {
                if (x[i] < 0 || x[i] > MOST_COORDINATE) {
                    return false;
                }
            }
            return true;
        }

        /** Divides as early as it can: the product of all upper numbers may not fit into a long. */
        long dimensionOf(long[] x) {
            long lower = 1;
            for (int r = 0; r < count; r++) {
                lower *= pair(rho, r);
            }
            long product = 1;
            for (int r = 0; r < count; r++) {
                long upper = pair(x, r) + pair(rho, r);
                long common = commonDivisor(upper, lower);
                if (common != 0) {
                    product *= upper / common;
                    lower /= common;
                }
            }
            return product;
        }

        private static long commonDivisor(long one, long other) {
            long a = one;
            long b = other;
            for (int step = 0; step < 100 && b != 0; step++) {
                long rest = a % b;
                a = b;
                b = rest;
            }
            return a;
        }

        int dualCoxeter() {
            return count == 0 ? 1 : (int) pair(rho, count - 1) + 1;
        }
    }

    /** The word, whose element is told by what it makes of rho. */
    private static final class Word {
        private final Roots roots;
        private final int[] mirrors;
        private int size;

        Word(Roots roots) {
            this.roots = roots;
            mirrors = new int[MOST_IN_WORD];
        }

        void actOn(long[] x) {
            for (int k = size - 1; k >= 0; k--) {
                roots.mirrorAt(x, mirrors[k]);
            }
        }

        void actOn(Register x) {
            for (int k = size - 1; k >= 0; k--) {
                x.mirrorAt(mirrors[k]);
            }
        }

        void elementInto(long[] x) {
            copy(roots.rho, x);
            actOn(x);
        }

        void inverseInto(long[] x) {
            copy(roots.rho, x);
            for (int k = 0; k < size; k++) {
                roots.mirrorAt(x, mirrors[k]);
            }
        }
    }

    /**
     * The weight in a register. To act and to set in turn makes coordinates greater and greater, so each one is a row
     * of digits, the low ones first, and below 0 as the machine holds its own numbers. The mirrors between two sets
     * are one element of the group, which makes the greatest coordinate at most 5 times as great, and 512 calls have
     * at most 256 such turns: 9 * 5^256 takes 598 bits of the 640, which leaves room for the sums that are made of it.
     */
    private static final class Register {
        private static final int DIGITS = 20;
        private static final int BITS = 32;
        private static final long MASK = 4294967295L;
        private static final long FAR = 4294967296L;

        private final Roots roots;
        private final long[][] coordinates;
        private final long[] total;

        Register(Roots roots) {
            this.roots = roots;
            coordinates = new long[MOST_RANK][DIGITS];
            total = new long[DIGITS];
        }

        void empty() {
            for (int i = 0; i < MOST_RANK; i++) {
                write(i, 0);
            }
        }

        void write(int index, int value) {
            long[] digits = coordinates[index];
            digits[0] = value & MASK;
            for (int k = 1; k < DIGITS; k++) {
                digits[k] = value < 0 ? MASK : 0;
            }
        }

        /** The coordinate, or what is left of a greater one in an int. */
        int low(int index) {
            return (int) coordinates[index][0];
        }

        void become(Register other) {
            for (int i = 0; i < MOST_RANK; i++) {
                for (int k = 0; k < DIGITS; k++) {
                    coordinates[i][k] = other.coordinates[i][k];
                }
            }
        }

        void takeAway(Register other) {
            for (int i = 0; i < MOST_RANK; i++) {
                addTimes(coordinates[i], other.coordinates[i], -1);
            }
        }

        int differences(Register other) {
            int count = 0;
            for (int i = 0; i < MOST_RANK; i++) {
                if (!isSame(coordinates[i], other.coordinates[i])) {
                    count++;
                }
            }
            return count;
        }

        /** The mirror's own coordinate comes last, as the others still need it. */
        void mirrorAt(int mirror) {
            for (int j = 0; j < roots.rank; j++) {
                if (j != mirror && roots.matrix[mirror][j] != 0) {
                    addTimes(coordinates[j], coordinates[mirror], -roots.matrix[mirror][j]);
                }
            }
            addTimes(coordinates[mirror], coordinates[mirror], -2);
        }

        /** Each such mirror makes one root fewer negative, so there are as few as can be. */
        int lift() {
            int steps = 0;
            while (steps < roots.count && liftOnce()) {
                steps++;
            }
            return steps;
        }

        private boolean liftOnce() {
            for (int i = 0; i < roots.rank; i++) {
                if (isBelowZero(coordinates[i])) {
                    mirrorAt(i);
                    return true;
                }
            }
            return false;
        }

        /** A coordinate beyond 32 bits is told as 2^32 or less that: it is not 0, and too great for any module. */
        void nearInto(long[] row) {
            for (int i = 0; i < MOST_RANK; i++) {
                row[i] = near(coordinates[i]);
            }
        }

        boolean isSumOfSimple() {
            for (int i = 0; i < roots.rank; i++) {
                for (int k = 0; k < DIGITS; k++) {
                    total[k] = 0;
                }
                for (int j = 0; j < roots.rank; j++) {
                    addTimes(total, coordinates[j], roots.share(j, i));
                }
                if (isBelowZero(total) || rest(total, roots.shareDivisor()) != 0) {
                    return false;
                }
            }
            return true;
        }

        private static boolean isBelowZero(long[] digits) {
            return digits[DIGITS - 1] > MASK / 2;
        }

        private static boolean isSame(long[] one, long[] other) {
            for (int k = 0; k < DIGITS; k++) {
                if (one[k] != other[k]) {
                    return false;
                }
            }
            return true;
        }

        private static long near(long[] digits) {
            boolean below = isBelowZero(digits);
            for (int k = 1; k < DIGITS; k++) {
                if (digits[k] != (below ? MASK : 0)) {
                    return below ? -FAR : FAR;
                }
            }
            return below ? digits[0] - FAR : digits[0];
        }

        private static void addTimes(long[] into, long[] digits, int factor) {
            long carry = 0;
            for (int k = 0; k < DIGITS; k++) {
                long sum = into[k] + factor * digits[k] + carry;
                into[k] = sum & MASK;
                carry = sum >> BITS;
            }
        }

        /** What is left of a number that is not below 0 when it is divided. */
        private static long rest(long[] digits, int divisor) {
            if (divisor <= 0) {
                return 0;
            }
            long left = 0;
            for (int k = DIGITS - 1; k >= 0; k--) {
                left = ((left << BITS) + digits[k]) % divisor;
            }
            return left;
        }
    }

    /** A weight of small coordinates as one number; greater coordinates, the first ones first, make it greater. */
    private static final class Keys {
        private static final int BITS = 12;
        private static final int HALF = 2048;
        private static final int MASK = 4095;

        static long pack(long[] x) {
            long key = 0;
            for (int i = 0; i < MOST_RANK; i++) {
                if (x[i] < -HALF || x[i] >= HALF) {
                    return NONE;
                }
                key = (key << BITS) | (x[i] + HALF);
            }
            return key;
        }

        static int coordinate(long key, int index) {
            return (int) ((key >> (BITS * (MOST_RANK - 1 - index))) & MASK) - HALF;
        }

        static void unpack(long key, long[] x) {
            for (int i = 0; i < MOST_RANK; i++) {
                x[i] = coordinate(key, i);
            }
        }
    }

    /** The polynomials of Kazhdan and Lusztig, found when the first one is asked for. */
    private static final class Polynomials {
        // A polynomial is held as its value at 64: in groups this small the digits are its coefficients.
        private static final int BITS = 6;
        private static final int MASK = 63;

        private final Roots roots;
        private final long[] keys;
        private final int[] lengths;
        private final int[][] left;
        private final long[][] rows;
        private final long[] element;
        private int count;

        Polynomials(Roots roots) {
            this.roots = roots;
            keys = new long[MOST_ELEMENTS];
            lengths = new int[MOST_ELEMENTS];
            left = new int[MOST_ELEMENTS][MOST_RANK];
            rows = new long[MOST_ELEMENTS][MOST_ELEMENTS];
            element = new long[MOST_RANK];
        }

        void forget() {
            count = 0;
        }

        int digit(long[] x, long[] w, int power) {
            if (count == 0) {
                fill();
            }
            int lower = find(Keys.pack(x), 0);
            int upper = find(Keys.pack(w), 0);
            if (lower == NONE || upper == NONE) {
                return 0;
            }
            return (int) (rows[upper][lower] >> (BITS * power)) & MASK;
        }

        private void fill() {
            findElements();
            for (int x = 0; x < count; x++) {
                rows[0][x] = x == 0 ? 1 : 0;
            }
            for (int w = 1; w < count; w++) {
                fillRow(w);
            }
        }

        /** Elements in the order of their lengths, with what a mirror ahead makes of each. */
        private void findElements() {
            enter(Keys.pack(roots.rho), 0);
            for (int w = 0; w < count && w < MOST_ELEMENTS; w++) {
                for (int i = 0; i < roots.rank; i++) {
                    climb(w, i);
                }
            }
        }

        private void climb(int w, int mirror) {
            Keys.unpack(keys[w], element);
            if (element[mirror] < 0) {
                return;
            }
            roots.mirrorAt(element, mirror);
            long key = Keys.pack(element);
            int above = find(key, w + 1);
            if (above == NONE) {
                above = enter(key, lengths[w] + 1);
            }
            left[w][mirror] = above;
            left[above][mirror] = w;
        }

        private int enter(long key, int length) {
            if (count >= MOST_ELEMENTS) {
                return 0;
            }
            keys[count] = key;
            lengths[count] = length;
            count++;
            return count - 1;
        }

        private int find(long key, int from) {
            for (int w = from; w < count; w++) {
                if (keys[w] == key) {
                    return w;
                }
            }
            return NONE;
        }

        /** The recursion over a mirror s with w = s v above v; elements not below w get 0. */
        private void fillRow(int w) {
            int s = firstDown(w);
            int v = left[w][s];
            long[] row = rows[w];
            for (int x = 0; x < count; x++) {
                if (left[x][s] < x) {
                    row[x] = rows[v][left[x][s]] + (rows[v][x] << BITS);
                }
            }
            for (int z = 0; z < v; z++) {
                long leading = left[z][s] < z ? leadingOf(z, v) : 0;
                if (leading != 0) {
                    takeAway(w, z, s, leading);
                }
            }
            for (int x = 0; x < count; x++) {
                if (left[x][s] < x) {
                    row[left[x][s]] = row[x];
                }
            }
        }

        private int firstDown(int w) {
            for (int i = 0; i < roots.rank; i++) {
                if (left[w][i] < w) {
                    return i;
                }
            }
            return 0;
        }

        private long leadingOf(int z, int v) {
            int gap = lengths[v] - lengths[z];
            if (gap <= 0 || gap % 2 == 0) {
                return 0;
            }
            return (rows[v][z] >> (BITS * ((gap - 1) / 2))) & MASK;
        }

        private void takeAway(int w, int z, int s, long leading) {
            int shift = BITS * ((lengths[w] - lengths[z]) / 2);
            for (int x = 0; x <= z; x++) {
                if (left[x][s] < x) {
                    rows[w][x] -= leading * (rows[z][x] << shift);
                }
            }
        }
    }

    /** The weights of a module, the dominant ones first, each with its multiplicity. */
    private static final class Weights {
        private final Roots roots;
        private final long[] keys;
        private final int[] counts;
        private final long[] heights;
        private final long[] row;
        private final long[] other;
        private final long[] lifted;
        private long highest;
        private long highestNorm;
        private int dominants;
        private int size;

        Weights(Roots roots) {
            this.roots = roots;
            keys = new long[MOST_DIMENSION];
            counts = new int[MOST_DIMENSION];
            heights = new long[MOST_DIMENSION];
            row = new long[MOST_RANK];
            other = new long[MOST_RANK];
            lifted = new long[MOST_RANK];
            highest = NONE;
        }

        void forget() {
            highest = NONE;
            dominants = 0;
            size = 0;
        }

        /** Finds the weights of the module of x, whose dimension is at most 300; the last ones found are used again. */
        void take(Register x) {
            x.nearInto(row);
            long key = Keys.pack(row);
            if (key == highest) {
                return;
            }
            highest = key;
            highestNorm = shiftedNorm(row);
            dominants = 0;
            enter(row);
            for (int k = 0; k < dominants && k < MOST_DIMENSION; k++) {
                Keys.unpack(keys[k], row);
                counts[k] = k == 0 ? 1 : countByStrings();
                for (int r = 0; r < roots.count; r++) {
                    enterLower(r);
                }
            }
            spread();
        }

        /** Dominant weights below another one are reached by taking away positive roots, through dominant ones. */
        private void enterLower(int root) {
            for (int i = 0; i < MOST_RANK; i++) {
                other[i] = row[i] - roots.weights[root][i];
            }
            if (roots.firstBelowZero(other) == NONE) {
                enter(other);
            }
        }

        /** Keeps higher weights first, since multiplicities come of those of higher ones. */
        private void enter(long[] x) {
            long key = Keys.pack(x);
            if (dominants >= MOST_DIMENSION || find(key) != NONE) {
                return;
            }
            long height = 0;
            for (int r = 0; r < roots.count; r++) {
                height += roots.pair(x, r);
            }
            int place = dominants;
            while (place > 0 && heights[place - 1] < height) {
                keys[place] = keys[place - 1];
                heights[place] = heights[place - 1];
                place--;
            }
            keys[place] = key;
            heights[place] = height;
            dominants++;
        }

        private int find(long key) {
            for (int k = 0; k < dominants; k++) {
                if (keys[k] == key) {
                    return k;
                }
            }
            return NONE;
        }

        /** The multiplicity of a dominant x. */
        int countOf(long[] x) {
            int place = find(Keys.pack(x));
            return place == NONE ? 0 : counts[place];
        }

        /** Freudenthal's formula for the weight in row. */
        private int countByStrings() {
            long sum = 0;
            for (int r = 0; r < roots.count; r++) {
                sum += sumOfString(r);
            }
            long lower = (highestNorm - shiftedNorm(row)) * roots.rank;
            return lower == 0 ? 0 : (int) (4 * roots.squareSum * sum / lower);
        }

        private long sumOfString(int root) {
            long sum = 0;
            copy(row, other);
            for (int step = 0; step < MOST_DIMENSION; step++) {
                for (int i = 0; i < roots.rank; i++) {
                    other[i] += roots.weights[root][i];
                }
                copy(other, lifted);
                roots.lift(lifted);
                int count = countOf(lifted);
                if (count == 0) {
                    break;
                }
                sum += count * roots.pair(other, root) * roots.squares[root];
            }
            return sum;
        }

        private long shiftedNorm(long[] x) {
            for (int i = 0; i < MOST_RANK; i++) {
                lifted[i] = x[i] + roots.rho[i];
            }
            return roots.norm(lifted);
        }

        /** A weight comes of just one other by the mirror of its first coordinate below 0, so none is found twice. */
        private void spread() {
            size = dominants;
            for (int k = 0; k < size && k < MOST_DIMENSION; k++) {
                for (int i = 0; i < roots.rank; i++) {
                    Keys.unpack(keys[k], row);
                    if (row[i] <= 0) {
                        continue;
                    }
                    roots.mirrorAt(row, i);
                    if (roots.firstBelowZero(row) == i && size < MOST_DIMENSION) {
                        keys[size] = Keys.pack(row);
                        counts[size] = counts[k];
                        size++;
                    }
                }
            }
        }

        long countAll() {
            long sum = 0;
            for (int k = 0; k < size; k++) {
                sum += counts[k];
            }
            return sum;
        }
    }

    /** Weights, each a number of times, the greater keys first. */
    private static final class Sum {
        private final long[] keys;
        private final int[] counts;
        private int size;

        Sum() {
            keys = new long[MOST_DIMENSION];
            counts = new int[MOST_DIMENSION];
        }

        void empty() {
            size = 0;
        }

        void add(long key, int count) {
            int place = placeOf(key);
            if (place < size && keys[place] == key) {
                counts[place] += count;
                return;
            }
            if (size >= MOST_DIMENSION) {
                return;
            }
            for (int k = size; k > place; k--) {
                keys[k] = keys[k - 1];
                counts[k] = counts[k - 1];
            }
            keys[place] = key;
            counts[place] = count;
            size++;
        }

        private int placeOf(long key) {
            int low = 0;
            int high = size;
            for (int step = 0; step < 32 && low < high; step++) {
                int middle = (low + high) / 2;
                if (keys[middle] > key) {
                    low = middle + 1;
                } else {
                    high = middle;
                }
            }
            return low;
        }

        void dropEmpty() {
            int left = 0;
            for (int k = 0; k < size; k++) {
                if (counts[k] != 0) {
                    keys[left] = keys[k];
                    counts[left] = counts[k];
                    left++;
                }
            }
            size = left;
        }
    }

    /** Splits products and modules: each weight of the module, shifted, stands with a sign for a highest weight. */
    private static final class Splitter {
        private static final int MOST_STEPS = 1000000;

        private final Roots roots;
        private final Sum parts;
        private final long[] row;

        Splitter(Roots roots) {
            this.roots = roots;
            parts = new Sum();
            row = new long[MOST_RANK];
        }

        /**
         * Without the mirror of that number, if there is one, and with the mirror of the affine wall, if there is
         * one.
         */
        void split(Weights module, long[] shift, int without, int wall) {
            parts.empty();
            for (int k = 0; k < module.size; k++) {
                Keys.unpack(module.keys[k], row);
                for (int i = 0; i < MOST_RANK; i++) {
                    row[i] += shift[i] + roots.rho[i];
                }
                int sign = straighten(without, wall);
                if (sign == 0) {
                    continue;
                }
                for (int i = 0; i < MOST_RANK; i++) {
                    row[i] -= roots.rho[i];
                }
                parts.add(Keys.pack(row), sign * module.counts[k]);
            }
            parts.dropEmpty();
        }

        /** Brings the row inside all walls; the answer is 0 if it lies on one, else the sign of the mirrors used. */
        private int straighten(int without, int wall) {
            int sign = 1;
            for (int step = 0; step < MOST_STEPS; step++) {
                int mirror = firstNotAbove(without);
                long outside = mirror == NONE ? beyond(wall) : -row[mirror];
                if (outside < 0) {
                    return sign;
                }
                if (outside == 0) {
                    return 0;
                }
                if (mirror == NONE) {
                    crossWall(outside);
                } else {
                    roots.mirrorAt(row, mirror);
                }
                sign = -sign;
            }
            return 0;
        }

        private int firstNotAbove(int without) {
            for (int i = 0; i < roots.rank; i++) {
                if (i != without && row[i] <= 0) {
                    return i;
                }
            }
            return NONE;
        }

        private long beyond(int wall) {
            return wall == NO_WALL ? -1 : roots.pair(row, roots.count - 1) - wall;
        }

        private void crossWall(long outside) {
            for (int i = 0; i < roots.rank; i++) {
                row[i] -= outside * roots.weights[roots.count - 1][i];
            }
        }
    }

    /** Finds multiplicities a second time, by the operators of Demazure along a longest reduced word. */
    private static final class Checker {
        private final Roots roots;
        private final Sum one;
        private final Sum other;
        private final long[] element;
        private final long[] row;

        Checker(Roots roots) {
            this.roots = roots;
            one = new Sum();
            other = new Sum();
            element = new long[MOST_RANK];
            row = new long[MOST_RANK];
        }

        boolean agrees(Weights module) {
            Sum found = one;
            Sum next = other;
            found.empty();
            found.add(module.highest, 1);
            for (int i = 0; i < MOST_RANK; i++) {
                element[i] = -roots.rho[i];
            }
            for (int k = 0; k < roots.count; k++) {
                int mirror = roots.firstBelowZero(element);
                if (mirror == NONE) {
                    return false;
                }
                roots.mirrorAt(element, mirror);
                next.empty();
                lowerAll(found, next, mirror);
                Sum spare = found;
                found = next;
                next = spare;
            }
            return isSame(module, found);
        }

        private void lowerAll(Sum from, Sum into, int mirror) {
            for (int k = 0; k < from.size; k++) {
                Keys.unpack(from.keys[k], row);
                int coordinate = (int) row[mirror];
                if (coordinate >= 0) {
                    addString(into, mirror, coordinate + 1, from.counts[k]);
                } else {
                    roots.mirrorAt(row, mirror);
                    move(mirror, -1);
                    addString(into, mirror, -coordinate - 1, -from.counts[k]);
                }
            }
            into.dropEmpty();
        }

        private void addString(Sum into, int mirror, int steps, int count) {
            for (int step = 0; step < steps; step++) {
                into.add(Keys.pack(row), count);
                move(mirror, -1);
            }
        }

        private void move(int mirror, int times) {
            for (int i = 0; i < roots.rank; i++) {
                row[i] += times * roots.matrix[mirror][i];
            }
        }

        private boolean isSame(Weights module, Sum found) {
            if (found.size != module.size) {
                return false;
            }
            for (int k = 0; k < module.size; k++) {
                int place = found.placeOf(module.keys[k]);
                if (place >= found.size || found.keys[place] != module.keys[k] || found.counts[place] != module.counts[k]) {
                    return false;
                }
            }
            return true;
        }
    }
}
