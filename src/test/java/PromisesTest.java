import java.util.concurrent.Callable;

/** Each promise of the document by itself: ordinary inputs, edges, and wrong inputs with their exceptions. */
public final class PromisesTest {
    private static final String STATE = "IllegalStateException";
    private static final String INDEX = "IndexOutOfBoundsException";
    private static final String ARGUMENT = "IllegalArgumentException";
    private static final String UNSUPPORTED = "UnsupportedOperationException";
    private static final String ARITHMETIC = "ArithmeticException";
    private static final String MISSING = "NoSuchElementException";
    private static final int LEAST = Integer.MIN_VALUE;
    private static final int MOST = Integer.MAX_VALUE;

    private static int wrong = 0;
    private static int promise = 0;

    /** The answer of a call, or the exact name of what it throws. */
    private static String answer(Callable<Object> call) {
        try {
            return String.valueOf(call.call());
        } catch (Exception e) {
            return e.getClass().getSimpleName();
        }
    }

    private static void due(String call, Object want, Callable<Object> got) {
        String answer = answer(got);
        if (!answer.equals(String.valueOf(want))) {
            wrong++;
            System.out.println("promise " + promise + ": " + call + " answered " + answer + ", due is " + want);
        }
    }

    public static void main(String[] args) {
        promise1();
        promise2();
        promise2Resets();
        promise2Refused();
        promise3();
        promise4();
        promise5();
        promise6();
        promise7();
        promise8();
        promise9();
        promise10();
        promise11();
        promise12();
        promise13();
        promise14();
        promise15();
        promise15Refused();
        promise16();
        promise17();
        promise18();
        promise19();
        promise20();
        promise21();
        promise22();
        promise23();
        promise24();
        promise25();
        promise26();
        promise26Refused();
        promise27();
        promise27Refused();
        promise28();
        promise29();
        promise30();
        promise31();
        promise32();
        promise33();
        promise34();
        System.out.println(wrong == 0 ? "all answers are as due" : wrong + " answers are wrong");
        System.exit(wrong == 0 ? 0 : 1);
    }

    private static Weightlattice hall(char type, int rank) {
        Weightlattice x = new Weightlattice();
        x.choose(type, rank);
        return x;
    }

    private static void word(Weightlattice x, int... mirrors) {
        x.clear();
        for (int mirror : mirrors) {
            x.put(mirror);
        }
    }

    private static void weight(Weightlattice x, int register, int... coordinates) {
        for (int i = 0; i < coordinates.length; i++) {
            x.set(register, i, coordinates[i]);
        }
    }

    private static String weightIn(Weightlattice x, int register, int rank) {
        StringBuilder text = new StringBuilder();
        for (int i = 0; i < rank; i++) {
            text.append(i == 0 ? "" : " ").append(x.get(register, i));
        }
        return text.toString();
    }

    private static String parts(Weightlattice x, int count, int rank) {
        StringBuilder text = new StringBuilder();
        for (int p = 0; p < count; p++) {
            text.append(p == 0 ? "" : ", ").append(x.times(p)).append(" x");
            for (int i = 0; i < rank; i++) {
                text.append(' ').append(x.partAt(p, i));
            }
        }
        return text.toString();
    }

    private static String reduced(Weightlattice x) {
        StringBuilder text = new StringBuilder();
        for (int k = 0; k < x.length(); k++) {
            text.append(x.reducedAt(k));
        }
        return text.toString();
    }

    private static String roots(Weightlattice x, int count, int rank) {
        StringBuilder text = new StringBuilder();
        for (int r = 0; r < count; r++) {
            text.append(r == 0 ? "" : " ");
            for (int i = 0; i < rank; i++) {
                text.append(x.coefficient(r, i));
            }
        }
        return text.toString();
    }

    private static String squares(Weightlattice x, int count) {
        StringBuilder text = new StringBuilder();
        for (int r = 0; r < count; r++) {
            text.append(x.square(r));
        }
        return text.toString();
    }

    private static String exponents(Weightlattice x, int rank) {
        StringBuilder text = new StringBuilder();
        for (int i = 0; i < rank; i++) {
            text.append(x.exponent(i));
        }
        return text.toString();
    }

    private static String matrix(Weightlattice x, int rank) {
        StringBuilder text = new StringBuilder();
        for (int i = 0; i < rank; i++) {
            for (int j = 0; j < rank; j++) {
                text.append(j == 0 ? (i == 0 ? "" : " / ") : " ").append(x.matrix(i, j));
            }
        }
        return text.toString();
    }

    private static void stateFirst(Weightlattice x, int bad) {
        due("matrix", STATE, () -> x.matrix(bad, bad));
        due("coefficient", STATE, () -> x.coefficient(bad, bad));
        due("square", STATE, () -> x.square(bad));
        due("exponent", STATE, () -> x.exponent(bad));
        due("order", STATE, x::order);
        due("put", STATE, () -> x.put(bad));
        due("length", STATE, x::length);
        due("reducedAt", STATE, () -> x.reducedAt(bad));
        due("goesDown", STATE, () -> x.goesDown(bad, true));
        due("goesDown", STATE, () -> x.goesDown(bad, false));
        due("keep", STATE, x::keep);
        due("isBelow", STATE, x::isBelow);
        due("polynomial", STATE, () -> x.polynomial(bad));
        due("set", STATE, () -> x.set(bad, bad, bad));
        due("get", STATE, () -> x.get(bad, bad));
        due("act", STATE, () -> x.act(bad));
        due("raise", STATE, () -> x.raise(bad));
        due("orbit", STATE, () -> x.orbit(bad));
        due("pairing", STATE, () -> x.pairing(bad, bad));
        due("isLower", STATE, () -> x.isLower(bad, bad));
        due("dimension", STATE, () -> x.dimension(bad));
        due("multiplicity", STATE, () -> x.multiplicity(bad, bad));
        due("dominant", STATE, () -> x.dominant(bad));
        due("multiply", STATE, () -> x.multiply(bad, bad));
        due("fuse", STATE, () -> x.fuse(bad, bad, bad));
        due("branch", STATE, () -> x.branch(bad, bad));
        due("partAt", STATE, () -> x.partAt(bad, bad));
        due("times", STATE, () -> x.times(bad));
        due("meanLength", STATE, x::meanLength);
        due("ratio", STATE, () -> x.ratio(bad, bad));
        due("isConsistent", STATE, x::isConsistent);
    }

    private static void promise1() {
        promise = 1;
        Weightlattice x = new Weightlattice();
        due("type", '-', x::type);
        due("clear", 0, x::clear);
        stateFirst(x, 0);
        stateFirst(x, -1);
        stateFirst(x, 100);
        stateFirst(x, LEAST);
        stateFirst(x, MOST);
        due("type", '-', x::type);
        due("choose", 12, () -> x.choose('D', 4));
        due("length", 0, x::length);
        due("clear", 0, x::clear);
        for (int r = 0; r < 4; r++) {
            int register = r;
            due("registers", "0 0 0 0", () -> weightIn(x, register, 4));
        }
    }

    private static void promise2() {
        promise = 2;
        Weightlattice x = new Weightlattice();
        due("choose A1", 1, () -> x.choose('A', 1));
        due("choose A2", 3, () -> x.choose('A', 2));
        due("choose A3", 6, () -> x.choose('A', 3));
        due("choose A4", 10, () -> x.choose('A', 4));
        due("choose B2", 4, () -> x.choose('B', 2));
        due("choose B3", 9, () -> x.choose('B', 3));
        due("choose C3", 9, () -> x.choose('C', 3));
        due("choose D4", 12, () -> x.choose('D', 4));
        due("choose G2", 6, () -> x.choose('G', 2));
    }

    private static void promise2Resets() {
        Weightlattice x = hall('B', 2);
        word(x, 0, 1);
        x.keep();
        weight(x, 0, 1, 2);
        weight(x, 1, 3, 0);
        weight(x, 2, -4, 5);
        weight(x, 3, 9, -9);
        x.multiply(0, 1);
        due("choose again", 4, () -> x.choose('B', 2));
        due("length is 0", 0, x::length);
        due("clear is 0", 0, x::clear);
        due("what was kept is the one of the empty word", 0, x::keep);
        for (int r = 0; r < 4; r++) {
            int register = r;
            due("registers are 0", "0 0", () -> weightIn(x, register, 2));
        }
        due("no parts", INDEX, () -> x.times(0));
        due("no parts", INDEX, () -> x.partAt(0, 0));
        weight(x, 0, 1, 1);
        due("multiplicity in B2", 2, () -> {
            weight(x, 1, 0, 1);
            return x.multiplicity(0, 1);
        });
        x.put(0);
        x.keep();
        due("polynomial of the new system", 1, () -> x.polynomial(0));
        due("choose another", 6, () -> x.choose('G', 2));
        due("isBelow", true, x::isBelow);
        weight(x, 0, 1, 1);
        weight(x, 1, 1, 0);
        due("multiplicity in G2", 4, () -> x.multiplicity(0, 1));
        x.choose('A', 2);
        word(x, 0, 1, 0);
        x.keep();
        word(x, 0);
        due("polynomial in A2", 1, () -> x.polynomial(0));
        due("type", 'A', x::type);
        x.choose('D', 4);
        x.set(0, 3, 7);
        x.choose('A', 2);
        weight(x, 0, 1, 1);
        due("dimension in A2", 8, () -> x.dimension(0));
        x.choose('A', 4);
        due("registers", "0 0 0 0", () -> weightIn(x, 0, 4));
    }

    private static void promise2Refused() {
        Weightlattice x = new Weightlattice();
        char[] types = {'A', 'A', 'A', 'A', 'A', 'B', 'B', 'B', 'B', 'C', 'C', 'C', 'D', 'D', 'D', 'G', 'G', 'G',
            'E', 'F', 'a', 'b', 'c', 'd', 'g', '-', '@', 'H', 0, 65535};
        int[] ranks = {0, 5, -1, LEAST, MOST, 0, 1, 4, 5, 1, 2, 4, 2, 3, 5, 1, 3, 0, 4, 4, 2, 2, 3, 4, 2, 1, 2, 2, 1, 2};
        for (int k = 0; k < types.length; k++) {
            int at = k;
            due("choose " + types[k] + ranks[k], ARGUMENT, () -> x.choose(types[at], ranks[at]));
        }
        due("type", '-', x::type);
        due("length", STATE, x::length);
        x.choose('A', 2);
        word(x, 0, 1);
        weight(x, 0, 1, 1);
        x.multiply(0, 0);
        due("choose B4", ARGUMENT, () -> x.choose('B', 4));
        due("type", 'A', x::type);
        due("length", 2, x::length);
        due("get", 1, () -> x.get(0, 1));
        due("times", 2, () -> x.times(2));
        due("order", 6, x::order);
    }

    private static void promise3() {
        promise = 3;
        due("A1", "2", () -> matrix(hall('A', 1), 1));
        due("A4", "2 -1 0 0 / -1 2 -1 0 / 0 -1 2 -1 / 0 0 -1 2", () -> matrix(hall('A', 4), 4));
        due("B2", "2 -2 / -1 2", () -> matrix(hall('B', 2), 2));
        due("B3", "2 -1 0 / -1 2 -2 / 0 -1 2", () -> matrix(hall('B', 3), 3));
        due("C3", "2 -1 0 / -1 2 -1 / 0 -2 2", () -> matrix(hall('C', 3), 3));
        due("D4", "2 -1 0 0 / -1 2 -1 -1 / 0 -1 2 0 / 0 -1 0 2", () -> matrix(hall('D', 4), 4));
        due("G2", "2 -1 / -3 2", () -> matrix(hall('G', 2), 2));
        Weightlattice x = hall('G', 2);
        due("matrix -1 0", INDEX, () -> x.matrix(-1, 0));
        due("matrix 0 -1", INDEX, () -> x.matrix(0, -1));
        due("matrix 2 0", INDEX, () -> x.matrix(2, 0));
        due("matrix 0 2", INDEX, () -> x.matrix(0, 2));
        due("matrix most", INDEX, () -> x.matrix(MOST, LEAST));
    }

    private static void promise4() {
        promise = 4;
        due("A1", "1", () -> roots(hall('A', 1), 1, 1));
        due("A2", "10 01 11", () -> roots(hall('A', 2), 3, 2));
        due("A3", "100 010 001 110 011 111", () -> roots(hall('A', 3), 6, 3));
        due("B2", "10 01 11 12", () -> roots(hall('B', 2), 4, 2));
        due("B3", "100 010 001 110 011 111 012 112 122", () -> roots(hall('B', 3), 9, 3));
        due("C3", "100 010 001 110 011 111 021 121 221", () -> roots(hall('C', 3), 9, 3));
        due("D4", "1000 0100 0010 0001 1100 0110 0101 1110 1101 0111 1111 1211", () -> roots(hall('D', 4), 12, 4));
        due("G2", "10 01 11 21 31 32", () -> roots(hall('G', 2), 6, 2));
        Weightlattice x = hall('G', 2);
        due("coefficient -1 0", INDEX, () -> x.coefficient(-1, 0));
        due("coefficient 6 0", INDEX, () -> x.coefficient(6, 0));
        due("coefficient 0 -1", INDEX, () -> x.coefficient(0, -1));
        due("coefficient 0 2", INDEX, () -> x.coefficient(0, 2));
        due("coefficient 11 0", INDEX, () -> x.coefficient(11, 0));
    }

    private static void promise5() {
        promise = 5;
        due("A4", "2222222222", () -> squares(hall('A', 4), 10));
        due("B2", "4224", () -> squares(hall('B', 2), 4));
        due("B3", "442422444", () -> squares(hall('B', 3), 9));
        due("C3", "224222424", () -> squares(hall('C', 3), 9));
        due("D4", "222222222222", () -> squares(hall('D', 4), 12));
        due("G2", "262266", () -> squares(hall('G', 2), 6));
        Weightlattice x = hall('B', 2);
        due("square -1", INDEX, () -> x.square(-1));
        due("square 4", INDEX, () -> x.square(4));
        due("square most", INDEX, () -> x.square(MOST));
    }

    private static void promise6() {
        promise = 6;
        due("A1", "1", () -> exponents(hall('A', 1), 1));
        due("A2", "12", () -> exponents(hall('A', 2), 2));
        due("A4", "1234", () -> exponents(hall('A', 4), 4));
        due("B2", "13", () -> exponents(hall('B', 2), 2));
        due("B3", "135", () -> exponents(hall('B', 3), 3));
        due("C3", "135", () -> exponents(hall('C', 3), 3));
        due("D4", "1335", () -> exponents(hall('D', 4), 4));
        due("G2", "15", () -> exponents(hall('G', 2), 2));
        Weightlattice x = hall('D', 4);
        x.choose('G', 2);
        due("chosen again", "15", () -> exponents(x, 2));
        x.choose('A', 3);
        due("chosen again", "123", () -> exponents(x, 3));
        due("exponent -1", INDEX, () -> x.exponent(-1));
        due("exponent 3", INDEX, () -> x.exponent(3));
    }

    private static void promise7() {
        promise = 7;
        due("A1", 2, () -> hall('A', 1).order());
        due("A2", 6, () -> hall('A', 2).order());
        due("A3", 24, () -> hall('A', 3).order());
        due("A4", 120, () -> hall('A', 4).order());
        due("B2", 8, () -> hall('B', 2).order());
        due("B3", 48, () -> hall('B', 3).order());
        due("C3", 48, () -> hall('C', 3).order());
        due("D4", 192, () -> hall('D', 4).order());
        due("G2", 12, () -> hall('G', 2).order());
    }

    private static void promise8() {
        promise = 8;
        Weightlattice x = hall('A', 2);
        due("put -1", INDEX, () -> x.put(-1));
        due("put 2", INDEX, () -> x.put(2));
        due("no mirror was put", 0, x::length);
        for (int k = 1; k <= 40; k++) {
            due("put " + k, k, () -> x.put(0));
        }
        due("put 41", UNSUPPORTED, () -> x.put(0));
        due("put a wrong one first", INDEX, () -> x.put(2));
        due("length", 0, x::length);
        due("clear", 40, x::clear);
        due("put after clear", 1, () -> x.put(1));
        due("the last is behind", "10", () -> {
            x.put(0);
            return reduced(x);
        });
    }

    private static void promise9() {
        promise = 9;
        Weightlattice x = new Weightlattice();
        due("clear without a system", 0, x::clear);
        x.choose('A', 3);
        due("clear", 0, x::clear);
        word(x, 0, 1, 2);
        due("clear", 3, x::clear);
        due("clear again", 0, x::clear);
        due("length", 0, x::length);
        word(x, 0);
        x.keep();
        x.set(1, 1, 5);
        x.clear();
        due("keep after clear", 1, x::keep);
        due("register after clear", 5, () -> x.get(1, 1));
    }

    private static void promise10() {
        promise = 10;
        Weightlattice x = hall('A', 2);
        due("empty", 0, x::length);
        word(x, 0, 0);
        due("00", 0, x::length);
        word(x, 0, 1, 0);
        due("010", 3, x::length);
        word(x, 0, 1, 0, 1);
        due("0101", 2, x::length);
        word(x, 0, 1, 0, 1, 0, 1);
        due("010101", 0, x::length);
        Weightlattice d = hall('D', 4);
        word(d, 0, 1, 2, 3, 0, 1, 2, 3, 0, 1, 2, 3, 0, 1, 2, 3, 0, 1, 2, 3, 0, 1, 2, 3);
        due("the sixth power of a product of all", 0, d::length);
        word(d, 0, 2, 3, 1, 0, 2, 3, 1, 0, 2, 3, 1);
        due("longest", 12, d::length);
        Weightlattice g = hall('G', 2);
        word(g, 0, 1, 0, 1, 0, 1, 0);
        due("G2", 5, g::length);
    }

    private static void promise11() {
        promise = 11;
        Weightlattice x = hall('A', 2);
        word(x, 1, 0, 1);
        due("101", "010", () -> reduced(x));
        due("reducedAt 3", INDEX, () -> x.reducedAt(3));
        due("reducedAt -1", INDEX, () -> x.reducedAt(-1));
        due("the word is as it was", 3, x::clear);
        due("reducedAt 0 of none", INDEX, () -> x.reducedAt(0));
        word(x, 1, 1);
        due("reducedAt 0 of 11", INDEX, () -> x.reducedAt(0));
        Weightlattice a = hall('A', 4);
        word(a, 3, 1, 0, 2);
        due("3102", "1032", () -> reduced(a));
        Weightlattice b = hall('B', 3);
        word(b, 2, 1, 2, 1, 0);
        due("21210", "12102", () -> reduced(b));
        word(b, 2, 0);
        due("20", "02", () -> reduced(b));
        Weightlattice g = hall('G', 2);
        word(g, 1, 0, 1, 0, 1, 0);
        due("101010", "010101", () -> reduced(g));
    }

    private static void promise12() {
        promise = 12;
        Weightlattice x = hall('A', 3);
        word(x, 0, 1);
        due("0 ahead of 01", true, () -> x.goesDown(0, true));
        due("1 ahead of 01", false, () -> x.goesDown(1, true));
        due("2 ahead of 01", false, () -> x.goesDown(2, true));
        due("0 behind 01", false, () -> x.goesDown(0, false));
        due("1 behind 01", true, () -> x.goesDown(1, false));
        due("2 behind 01", false, () -> x.goesDown(2, false));
        due("the word is as it was", 2, x::length);
        due("goesDown -1", INDEX, () -> x.goesDown(-1, true));
        due("goesDown 3", INDEX, () -> x.goesDown(3, false));
        x.clear();
        due("none goes down", false, () -> x.goesDown(0, true));
        Weightlattice full = hall('A', 1);
        for (int k = 0; k < 39; k++) {
            full.put(0);
        }
        full.put(0);
        due("a full word", false, () -> full.goesDown(0, true));
        due("a full word", 40, full::clear);
    }

    private static void promise13() {
        promise = 13;
        Weightlattice x = hall('B', 2);
        due("keep at first", 0, x::keep);
        word(x, 0, 1, 0, 0);
        due("keep 0100", 0, x::keep);
        due("the word stays", 4, x::clear);
        due("keep of none", 2, x::keep);
        due("keep once more", 0, x::keep);
        word(x, 0, 1, 0, 1);
        x.keep();
        word(x, 1);
        due("keep after the longest", 4, x::keep);
        due("keep again", 1, x::keep);
    }

    private static void promise14() {
        promise = 14;
        Weightlattice x = hall('A', 3);
        due("the first is below itself", true, x::isBelow);
        word(x, 0);
        due("0 is not below none", false, x::isBelow);
        word(x, 1, 0, 2, 1);
        x.keep();
        due("itself", true, x::isBelow);
        word(x, 1, 2, 0, 1);
        due("itself by another word", true, x::isBelow);
        word(x, 0, 2);
        due("02", true, x::isBelow);
        word(x, 1, 1);
        due("none", true, x::isBelow);
        word(x, 0, 1);
        due("01", true, x::isBelow);
        word(x, 0, 1, 2);
        due("012", false, x::isBelow);
        word(x, 0, 1, 0);
        due("010", true, x::isBelow);
        word(x, 2, 1, 0);
        due("210", false, x::isBelow);
        word(x, 1, 0, 1, 2);
        due("1012", false, x::isBelow);
        word(x, 0, 1, 0, 2, 1, 0);
        due("the longest", false, x::isBelow);
        due("the word stays", 6, x::clear);
        due("what is kept stays", 4, x::keep);
    }

    private static void promise15() {
        promise = 15;
        Weightlattice x = hall('A', 3);
        word(x, 1, 0, 2, 1);
        x.keep();
        word(x, 1);
        due("1 in 1021 at 0", 1, () -> x.polynomial(0));
        due("1 in 1021 at 1", 1, () -> x.polynomial(1));
        for (int power = 2; power <= 9; power++) {
            int at = power;
            due("1 in 1021 at " + power, 0, () -> x.polynomial(at));
        }
        word(x, 0);
        due("0 in 1021 at 1", 0, () -> x.polynomial(1));
        x.clear();
        due("none in 1021 at 1", 1, () -> x.polynomial(1));
        word(x, 0, 2, 1, 0, 2);
        x.keep();
        word(x, 0, 2);
        due("02 in 02102 at 1", 1, () -> x.polynomial(1));
        word(x, 1);
        due("1 in 02102 at 1", 0, () -> x.polynomial(1));
        due("the word stays", 1, x::clear);
        due("what is kept stays", 5, x::keep);
        Weightlattice b = hall('B', 3);
        word(b, 0, 1, 2, 1, 0);
        b.keep();
        b.clear();
        due("B3 at 1", 1, () -> b.polynomial(1));
        due("B3 at 2", 0, () -> b.polynomial(2));
        Weightlattice g = hall('G', 2);
        word(g, 0, 1, 0, 1, 0);
        g.keep();
        word(g, 1, 0);
        due("G2 at 0", 1, () -> g.polynomial(0));
        due("G2 at 1", 0, () -> g.polynomial(1));
    }

    private static void promise15Refused() {
        Weightlattice x = hall('A', 2);
        due("power -1", ARGUMENT, () -> x.polynomial(-1));
        due("power 10", ARGUMENT, () -> x.polynomial(10));
        due("power 9", 0, () -> x.polynomial(9));
        due("power 0", 1, () -> x.polynomial(0));
        word(x, 0);
        due("not below", MISSING, () -> x.polynomial(0));
        due("the power first", ARGUMENT, () -> x.polynomial(10));
        word(x, 0, 0);
        due("00 is below", 1, () -> x.polynomial(0));
        Weightlattice a = hall('A', 4);
        due("A4", UNSUPPORTED, () -> a.polynomial(0));
        due("A4, the power first", ARGUMENT, () -> a.polynomial(-1));
        a.put(0);
        due("A4, not below", UNSUPPORTED, () -> a.polynomial(0));
        due("D4", UNSUPPORTED, () -> hall('D', 4).polynomial(9));
        due("B3", 1, () -> hall('B', 3).polynomial(0));
        due("C3", 1, () -> hall('C', 3).polynomial(0));
    }

    private static void promise16() {
        promise = 16;
        Weightlattice x = hall('A', 2);
        due("set", 0, () -> x.set(0, 0, 9));
        due("set again", 9, () -> x.set(0, 0, -9));
        due("set the same", -9, () -> x.set(0, 0, -9));
        due("the other coordinate", 0, () -> x.get(0, 1));
        due("the other register", 0, () -> x.get(1, 0));
        due("value 10", ARGUMENT, () -> x.set(0, 0, 10));
        due("value -10", ARGUMENT, () -> x.set(0, 0, -10));
        due("register -1", INDEX, () -> x.set(-1, 0, 0));
        due("register 4", INDEX, () -> x.set(4, 0, 0));
        due("index -1", INDEX, () -> x.set(0, -1, 0));
        due("index 2", INDEX, () -> x.set(0, 2, 0));
        due("the index first", INDEX, () -> x.set(0, 2, 10));
        due("the register first", INDEX, () -> x.set(4, 0, 10));
        due("nothing was changed", "-9 0", () -> weightIn(x, 0, 2));
        due("register 3", 0, () -> x.set(3, 1, 4));
        due("register 3", 4, () -> x.get(3, 1));
        weight(x, 2, 9, 9);
        word(x, 0);
        x.act(2);
        due("beyond 9 by a mirror", 18, () -> x.set(2, 1, 1));
    }

    private static void promise17() {
        promise = 17;
        Weightlattice x = hall('A', 4);
        weight(x, 3, 1, -2, 3, -4);
        due("get", "1 -2 3 -4", () -> weightIn(x, 3, 4));
        due("get", "0 0 0 0", () -> weightIn(x, 2, 4));
        due("register -1", INDEX, () -> x.get(-1, 0));
        due("register 4", INDEX, () -> x.get(4, 0));
        due("index -1", INDEX, () -> x.get(0, -1));
        due("index 4", INDEX, () -> x.get(0, 4));
        due("index 3 in A3", INDEX, () -> hall('A', 3).get(0, 3));
    }

    private static void promise18() {
        promise = 18;
        Weightlattice x = hall('A', 3);
        weight(x, 0, 1, 2, 3);
        due("the empty word", 0, () -> x.act(0));
        word(x, 0, 1);
        due("01", 3, () -> x.act(0));
        due("the last mirror first", "-3 1 5", () -> weightIn(x, 0, 3));
        word(x, 2);
        weight(x, 1, 1, 0, 0);
        due("nothing to change", 0, () -> x.act(1));
        weight(x, 1, 4, 0, 2);
        due("2 of 3", 2, () -> x.act(1));
        due("act", "4 2 -2", () -> weightIn(x, 1, 3));
        due("other registers", "-3 1 5", () -> weightIn(x, 0, 3));
        due("act -1", INDEX, () -> x.act(-1));
        due("act 4", INDEX, () -> x.act(4));
        Weightlattice g = hall('G', 2);
        weight(g, 0, 0, 1);
        word(g, 1);
        due("G2", 2, () -> g.act(0));
        due("G2", "3 -1", () -> weightIn(g, 0, 2));
        Weightlattice b = hall('B', 2);
        weight(b, 0, 1, 0);
        word(b, 0);
        b.act(0);
        due("B2", "-1 2", () -> weightIn(b, 0, 2));
    }

    private static void promise19() {
        promise = 19;
        Weightlattice x = hall('A', 2);
        due("raise 0", 0, () -> x.raise(0));
        weight(x, 0, -1, -1);
        due("raise -1 -1", 3, () -> x.raise(0));
        due("raised", "1 1", () -> weightIn(x, 0, 2));
        weight(x, 0, -1, 0);
        due("raise -1 0", 2, () -> x.raise(0));
        due("raised", "0 1", () -> weightIn(x, 0, 2));
        weight(x, 1, 2, -1);
        due("raise 2 -1", 1, () -> x.raise(1));
        due("raised", "1 1", () -> weightIn(x, 1, 2));
        Weightlattice d = hall('D', 4);
        weight(d, 3, -9, -9, -9, -9);
        due("raise in D4", 12, () -> d.raise(3));
        due("raised", "9 9 9 9", () -> weightIn(d, 3, 4));
        due("raise -1", INDEX, () -> x.raise(-1));
        due("raise 4", INDEX, () -> x.raise(4));
        due("the word stays", 0, x::length);
    }

    private static void promise20() {
        promise = 20;
        Weightlattice x = hall('D', 4);
        due("0", 1, () -> x.orbit(0));
        weight(x, 0, 0, 1, 0, 0);
        due("roots", 24, () -> x.orbit(0));
        weight(x, 1, 1, 0, 0, 0);
        due("vector", 8, () -> x.orbit(1));
        weight(x, 2, 1, 1, 1, 1);
        due("regular", 192, () -> x.orbit(2));
        weight(x, 3, 2, -1, 1, 1);
        due("not dominant", 48, () -> x.orbit(3));
        due("nothing is changed", "2 -1 1 1", () -> weightIn(x, 3, 4));
        Weightlattice g = hall('G', 2);
        weight(g, 0, 1, -1);
        due("G2 short", 6, () -> g.orbit(0));
        weight(g, 0, -3, -3);
        due("G2 regular", 12, () -> g.orbit(0));
        due("orbit -1", INDEX, () -> x.orbit(-1));
        due("orbit 4", INDEX, () -> x.orbit(4));
    }

    private static void promise21() {
        promise = 21;
        Weightlattice g = hall('G', 2);
        weight(g, 0, 1, 0);
        String text = "";
        for (int r = 0; r < 6; r++) {
            text += g.pairing(0, r);
        }
        String short0 = text;
        due("G2 short", "101211", () -> short0);
        weight(g, 0, 0, 1);
        text = "";
        for (int r = 0; r < 6; r++) {
            text += g.pairing(0, r);
        }
        String long0 = text;
        due("G2 long", "013312", () -> long0);
        Weightlattice b = hall('B', 3);
        weight(b, 2, -2, 3, -5);
        due("B3 highest", -1, () -> b.pairing(2, 8));
        due("B3 short", -3, () -> b.pairing(2, 5));
        due("pairing -1 0", INDEX, () -> b.pairing(-1, 0));
        due("pairing 4 0", INDEX, () -> b.pairing(4, 0));
        due("pairing 0 -1", INDEX, () -> b.pairing(0, -1));
        due("pairing 0 9", INDEX, () -> b.pairing(0, 9));
    }

    private static void promise22() {
        promise = 22;
        Weightlattice x = hall('A', 2);
        due("none of them", true, () -> x.isLower(0, 0));
        weight(x, 1, 1, 1);
        due("0 1", true, () -> x.isLower(0, 1));
        due("1 0", false, () -> x.isLower(1, 0));
        weight(x, 2, 1, 0);
        due("not whole", false, () -> x.isLower(0, 2));
        weight(x, 2, 2, -1);
        due("a simple root", true, () -> x.isLower(0, 2));
        weight(x, 2, 3, -3);
        due("one less, one more", false, () -> x.isLower(0, 2));
        due("one less, one more", false, () -> x.isLower(2, 0));
        weight(x, 3, -1, 2);
        weight(x, 2, 1, 1);
        due("3 2", true, () -> x.isLower(3, 2));
        due("isLower -1 0", INDEX, () -> x.isLower(-1, 0));
        due("isLower 0 -1", INDEX, () -> x.isLower(0, -1));
        due("isLower 4 0", INDEX, () -> x.isLower(4, 0));
        due("isLower 0 4", INDEX, () -> x.isLower(0, 4));
        Weightlattice g = hall('G', 2);
        weight(g, 1, 1, 0);
        due("G2: all weights are sums", true, () -> g.isLower(0, 1));
        Weightlattice b = hall('B', 3);
        weight(b, 1, 0, 0, 1);
        due("B3: spin", false, () -> b.isLower(0, 1));
        weight(b, 1, 0, 0, 2);
        due("B3: twice spin", true, () -> b.isLower(0, 1));
    }

    private static void promise23() {
        promise = 23;
        Weightlattice x = hall('G', 2);
        due("0", 1, () -> x.dimension(0));
        weight(x, 0, 1, 0);
        due("7", 7, () -> x.dimension(0));
        weight(x, 0, 0, 1);
        due("14", 14, () -> x.dimension(0));
        weight(x, 0, -1, 1);
        due("not dominant", UNSUPPORTED, () -> x.dimension(0));
        weight(x, 0, 9, -1);
        due("not dominant", UNSUPPORTED, () -> x.dimension(0));
        due("dimension -1", INDEX, () -> x.dimension(-1));
        due("dimension 4", INDEX, () -> x.dimension(4));
        Weightlattice d = hall('D', 4);
        weight(d, 1, 9, 9, 9, 9);
        due("10 to the 12", 1000000000000L, () -> d.dimension(1));
        due("30 is the greatest", 496, () -> raised(30).dimension(0));
        due("31 is taken as not dominant", UNSUPPORTED, () -> raised(31).dimension(0));
        due("in B3", 1000000000L, () -> {
            Weightlattice b = hall('B', 3);
            weight(b, 0, 9, 9, 9);
            return b.dimension(0);
        });
        due("nothing is changed", "9 9 9 9", () -> weightIn(d, 1, 4));
    }

    /** A2 with (0, most) in register 0, for 27 up to 36: mirrors add to the second coordinate what the first one has. */
    private static Weightlattice raised(int most) {
        Weightlattice x = hall('A', 2);
        word(x, 0);
        weight(x, 0, 9, 9);
        x.act(0);
        x.set(0, 0, 9);
        x.act(0);
        x.set(0, 0, most - 27);
        x.act(0);
        x.set(0, 0, 0);
        x.clear();
        return x;
    }

    private static int multiplicity(Weightlattice x, int... other) {
        weight(x, 1, other);
        return x.multiplicity(0, 1);
    }

    private static void promise24() {
        promise = 24;
        Weightlattice x = hall('G', 2);
        weight(x, 0, 1, 1);
        due("highest", 1, () -> x.multiplicity(0, 0));
        due("1 1", 1, () -> multiplicity(x, 1, 1));
        due("2 0", 2, () -> multiplicity(x, 2, 0));
        due("0 1", 2, () -> multiplicity(x, 0, 1));
        due("1 0", 4, () -> multiplicity(x, 1, 0));
        due("0 0", 4, () -> multiplicity(x, 0, 0));
        due("-1 0", 4, () -> multiplicity(x, -1, 0));
        due("3 -1", 2, () -> multiplicity(x, 3, -1));
        due("-1 -1", 1, () -> multiplicity(x, -1, -1));
        due("3 0 is none", 0, () -> multiplicity(x, 3, 0));
        due("0 2 is none", 0, () -> multiplicity(x, 0, 2));
        due("9 9 is none", 0, () -> multiplicity(x, 9, 9));
        due("nothing is changed", "9 9", () -> weightIn(x, 1, 2));
        Weightlattice a = hall('A', 2);
        weight(a, 0, 2, 2);
        due("A2 0 0", 3, () -> multiplicity(a, 0, 0));
        due("A2 1 1", 2, () -> multiplicity(a, 1, 1));
        due("A2 3 0", 1, () -> multiplicity(a, 3, 0));
        due("A2 1 0 is in another class", 0, () -> multiplicity(a, 1, 0));
        weight(a, 0, 1, 0);
        due("another highest weight", 1, () -> multiplicity(a, -1, 1));
        weight(a, 1, -1, 2);
        due("the highest one is not dominant", UNSUPPORTED, () -> a.multiplicity(1, 0));
        due("multiplicity -1 0", INDEX, () -> a.multiplicity(-1, 0));
        due("multiplicity 4 0", INDEX, () -> a.multiplicity(4, 0));
        due("multiplicity 0 -1", INDEX, () -> a.multiplicity(0, -1));
        due("the other register first", INDEX, () -> a.multiplicity(1, 4));
        weight(a, 2, 4, 8);
        due("dimension 315", ARITHMETIC, () -> a.multiplicity(2, 0));
        due("31 is taken as not dominant", UNSUPPORTED, () -> raised(31).multiplicity(0, 0));
        due("dimension 496", ARITHMETIC, () -> raised(30).multiplicity(0, 0));
        weight(farOff(x), 0, 1, 0);
        due("a weight far beyond all others", 0, () -> x.multiplicity(0, 1));
        Weightlattice d = hall('D', 4);
        weight(d, 0, 0, 2, 0, 0);
        due("dimension 300", 12, () -> multiplicity(d, 0, 0, 0, 0));
        due("another weight of it", 5, () -> multiplicity(d, 0, 1, 0, 0));
    }

    /** Brings (0, 4096) into register 1 of G2: two mirrors double a coordinate. */
    private static Weightlattice farOff(Weightlattice x) {
        weight(x, 1, 8, 0);
        word(x, 1, 0);
        for (int k = 0; k < 9; k++) {
            x.act(1);
            x.set(1, 1, 0);
        }
        word(x, 0);
        x.act(1);
        x.set(1, 0, 0);
        if (x.get(1, 1) != 4096) {
            throw new IllegalStateException("the test is off: " + weightIn(x, 1, 2));
        }
        return x;
    }

    private static void promise25() {
        promise = 25;
        Weightlattice x = hall('A', 2);
        due("0", 1, () -> x.dominant(0));
        weight(x, 0, 1, 0);
        due("3", 1, () -> x.dominant(0));
        weight(x, 0, 2, 2);
        due("27", 5, () -> x.dominant(0));
        Weightlattice g = hall('G', 2);
        weight(g, 3, 2, 0);
        due("G2", 4, () -> g.dominant(3));
        Weightlattice d = hall('D', 4);
        weight(d, 0, 0, 2, 0, 0);
        due("dimension 300", 7, () -> d.dominant(0));
        Weightlattice a = hall('A', 1);
        weight(a, 0, 9);
        due("A1", 5, () -> a.dominant(0));
        weight(x, 1, 4, 8);
        due("dimension 315", ARITHMETIC, () -> x.dominant(1));
        weight(x, 1, 9, -1);
        due("not dominant", UNSUPPORTED, () -> x.dominant(1));
        due("31 is taken as not dominant", UNSUPPORTED, () -> raised(31).dominant(0));
        due("dominant -1", INDEX, () -> x.dominant(-1));
        due("dominant 4", INDEX, () -> x.dominant(4));
    }

    private static void promise26() {
        promise = 26;
        Weightlattice x = hall('A', 2);
        due("0 by 0", "1 x 0 0", () -> parts(x, x.multiply(0, 0), 2));
        weight(x, 0, 1, 1);
        due("8 by 8", "1 x 3 0, 1 x 2 2, 2 x 1 1, 1 x 0 3, 1 x 0 0", () -> parts(x, x.multiply(0, 0), 2));
        weight(x, 1, 1, 0);
        due("8 by 3", "1 x 2 1, 1 x 1 0, 1 x 0 2", () -> parts(x, x.multiply(0, 1), 2));
        due("3 by 8", "1 x 2 1, 1 x 1 0, 1 x 0 2", () -> parts(x, x.multiply(1, 0), 2));
        due("nothing is changed", "1 1", () -> weightIn(x, 0, 2));
        Weightlattice g = hall('G', 2);
        weight(g, 0, 1, 0);
        weight(g, 1, 0, 1);
        due("7 by 7", "1 x 2 0, 1 x 1 0, 1 x 0 1, 1 x 0 0", () -> parts(g, g.multiply(0, 0), 2));
        due("7 by 14", "1 x 2 0, 1 x 1 1, 1 x 1 0", () -> parts(g, g.multiply(0, 1), 2));
        Weightlattice b = hall('B', 3);
        weight(b, 2, 0, 0, 1);
        due("8 by 8 in B3", "1 x 1 0 0, 1 x 0 1 0, 1 x 0 0 2, 1 x 0 0 0", () -> parts(b, b.multiply(2, 2), 3));
        Weightlattice big = raised(30);
        weight(big, 1, 1, 0);
        due("a part beyond 30", "1 x 1 30, 1 x 0 29", () -> parts(big, big.multiply(1, 0), 2));
        weight(big, 1, 0, 1);
        due("a part beyond 30", "1 x 1 29, 1 x 0 31", () -> parts(big, big.multiply(1, 0), 2));
    }

    private static void promise26Refused() {
        Weightlattice x = hall('A', 2);
        weight(x, 0, 1, 0);
        weight(x, 1, 4, 8);
        weight(x, 2, -1, 2);
        x.multiply(0, 0);
        due("the one of dimension 315", ARITHMETIC, () -> x.multiply(1, 0));
        due("the other of dimension 315", 3, () -> x.multiply(0, 1));
        due("the one is not dominant", UNSUPPORTED, () -> x.multiply(2, 0));
        due("the other is not dominant", UNSUPPORTED, () -> x.multiply(0, 2));
        due("not dominant comes first", UNSUPPORTED, () -> x.multiply(1, 2));
        due("multiply -1 0", INDEX, () -> x.multiply(-1, 0));
        due("multiply 0 -1", INDEX, () -> x.multiply(0, -1));
        due("multiply 4 0", INDEX, () -> x.multiply(4, 0));
        due("the register comes first", INDEX, () -> x.multiply(2, 4));
        due("what was split stays", "1 x 5 8, 1 x 4 7, 1 x 3 9", () -> parts(x, 3, 2));
        due("no more parts", INDEX, () -> x.times(3));
        due("the other with 31", UNSUPPORTED, () -> raised(31).multiply(1, 0));
        due("the other with 30", 1, () -> raised(30).multiply(1, 0));
        Weightlattice d = hall('D', 4);
        weight(d, 0, 0, 2, 0, 0);
        due("dimension 300", 1, () -> d.multiply(0, 1));
    }

    private static void promise27() {
        promise = 27;
        Weightlattice x = hall('A', 2);
        weight(x, 0, 1, 1);
        due("8 by 8 at 2", "1 x 1 1, 1 x 0 0", () -> parts(x, x.fuse(0, 0, 2), 2));
        due("8 by 8 at 3", "1 x 3 0, 2 x 1 1, 1 x 0 3, 1 x 0 0", () -> parts(x, x.fuse(0, 0, 3), 2));
        due("8 by 8 at 4", "1 x 3 0, 1 x 2 2, 2 x 1 1, 1 x 0 3, 1 x 0 0", () -> parts(x, x.fuse(0, 0, 4), 2));
        due("8 by 8 at 50", 5, () -> x.fuse(0, 0, 50));
        weight(x, 1, 1, 0);
        due("3 by 3 at 1", "1 x 0 1", () -> parts(x, x.fuse(1, 1, 1), 2));
        due("0 by 0 at 0", "1 x 0 0", () -> parts(x, x.fuse(2, 2, 0), 2));
        due("0 by 3 at 1", "1 x 1 0", () -> parts(x, x.fuse(2, 1, 1), 2));
        Weightlattice a = hall('A', 1);
        weight(a, 0, 3);
        weight(a, 1, 2);
        due("A1 at 3", "1 x 1", () -> parts(a, a.fuse(0, 1, 3), 1));
        due("A1 at 4", "1 x 3, 1 x 1", () -> parts(a, a.fuse(0, 1, 4), 1));
        Weightlattice g = hall('G', 2);
        weight(g, 0, 1, 0);
        due("7 by 7 at 1", "1 x 1 0, 1 x 0 0", () -> parts(g, g.fuse(0, 0, 1), 2));
        Weightlattice b = hall('B', 3);
        weight(b, 0, 0, 0, 1);
        due("spin by spin at 1", "1 x 1 0 0, 1 x 0 0 0", () -> parts(b, b.fuse(0, 0, 1), 3));
        Weightlattice d = hall('D', 4);
        weight(d, 0, 0, 0, 1, 0);
        weight(d, 1, 0, 0, 0, 1);
        due("D4 at 1", "1 x 1 0 0 0", () -> parts(d, d.fuse(0, 1, 1), 4));
    }

    private static void promise27Refused() {
        Weightlattice x = hall('A', 2);
        weight(x, 0, 1, 1);
        weight(x, 1, 1, 0);
        weight(x, 2, -1, 2);
        weight(x, 3, 4, 8);
        x.fuse(0, 0, 3);
        due("the one pairs to more", ARGUMENT, () -> x.fuse(0, 1, 1));
        due("the other pairs to more", ARGUMENT, () -> x.fuse(1, 0, 1));
        due("level -1", ARGUMENT, () -> x.fuse(0, 0, -1));
        due("level 51", ARGUMENT, () -> x.fuse(0, 0, 51));
        due("level least", ARGUMENT, () -> x.fuse(1, 1, LEAST));
        due("level most", ARGUMENT, () -> x.fuse(1, 1, MOST));
        due("not dominant comes first", UNSUPPORTED, () -> x.fuse(0, 2, 51));
        due("the one is not dominant", UNSUPPORTED, () -> x.fuse(2, 0, 5));
        due("the register comes first", INDEX, () -> x.fuse(2, 4, 51));
        due("fuse -1 0", INDEX, () -> x.fuse(-1, 0, 5));
        due("the one of dimension 315", ARITHMETIC, () -> x.fuse(3, 0, 12));
        due("the level comes before", ARGUMENT, () -> x.fuse(3, 0, 11));
        due("what was split stays", "1 x 3 0, 2 x 1 1, 1 x 0 3, 1 x 0 0", () -> parts(x, 4, 2));
        due("the other of dimension 315", 3, () -> x.fuse(1, 3, 13));
        due("the other of dimension 315 at 12", "1 x 4 7, 1 x 3 9", () -> parts(x, x.fuse(1, 3, 12), 2));
        due("31 is taken as not dominant", UNSUPPORTED, () -> raised(31).fuse(1, 0, 40));
    }

    private static void promise28() {
        promise = 28;
        Weightlattice x = hall('A', 2);
        weight(x, 0, 1, 1);
        due("8 without 0", "1 x 1 1, 1 x 0 0, 1 x -1 2, 1 x -2 1", () -> parts(x, x.branch(0, 0), 2));
        x.length();
        weight(x, 2, 5, -7);
        x.orbit(2);
        due("8 without 1", "1 x 2 -1, 1 x 1 1, 1 x 1 -2, 1 x 0 0", () -> parts(x, x.branch(0, 1), 2));
        due("nothing is changed", "1 1", () -> weightIn(x, 0, 2));
        Weightlattice a = hall('A', 1);
        weight(a, 0, 2);
        due("A1", "1 x 2, 1 x 0, 1 x -2", () -> parts(a, a.branch(0, 0), 1));
        Weightlattice g = hall('G', 2);
        weight(g, 2, 0, 1);
        due("14 without 1", "1 x 3 -1, 1 x 3 -2, 1 x 2 -1, 1 x 0 1, 1 x 0 0, 1 x 0 -1",
            () -> parts(g, g.branch(2, 1), 2));
        Weightlattice d = hall('D', 4);
        weight(d, 0, 1, 0, 0, 0);
        due("8 without 1", "1 x 1 0 0 0, 1 x 1 -1 0 0, 1 x 0 -1 1 1", () -> parts(d, d.branch(0, 1), 4));
        weight(x, 1, -1, 2);
        due("not dominant", UNSUPPORTED, () -> x.branch(1, 0));
        due("the mirror comes first", INDEX, () -> x.branch(1, 2));
        due("branch 0 -1", INDEX, () -> x.branch(0, -1));
        due("branch 4 0", INDEX, () -> x.branch(4, 0));
        due("branch -1 0", INDEX, () -> x.branch(-1, 0));
        weight(x, 1, 4, 8);
        due("dimension 315", ARITHMETIC, () -> x.branch(1, 0));
        due("what was split stays", "1 x 2 -1, 1 x 1 1, 1 x 1 -2, 1 x 0 0", () -> parts(x, 4, 2));
        due("31 is taken as not dominant", UNSUPPORTED, () -> raised(31).branch(0, 0));
    }

    private static void promise29() {
        promise = 29;
        Weightlattice x = hall('A', 2);
        due("before any splitting", INDEX, () -> x.partAt(0, 0));
        weight(x, 0, 1, 0);
        x.multiply(0, 0);
        due("partAt 0 0", 2, () -> x.partAt(0, 0));
        due("partAt 0 1", 0, () -> x.partAt(0, 1));
        due("partAt 1 0", 0, () -> x.partAt(1, 0));
        due("partAt 1 1", 1, () -> x.partAt(1, 1));
        due("partAt 2 0", INDEX, () -> x.partAt(2, 0));
        due("partAt -1 0", INDEX, () -> x.partAt(-1, 0));
        due("partAt 0 -1", INDEX, () -> x.partAt(0, -1));
        due("partAt 0 2", INDEX, () -> x.partAt(0, 2));
        due("partAt most", INDEX, () -> x.partAt(MOST, LEAST));
        x.branch(0, 1);
        due("the last splitting", 0, () -> x.partAt(1, 0));
        due("the last splitting", -1, () -> x.partAt(1, 1));
        x.fuse(0, 0, 1);
        due("the last splitting", 1, () -> x.partAt(0, 1));
        due("the last splitting", INDEX, () -> x.partAt(1, 0));
    }

    private static void promise30() {
        promise = 30;
        Weightlattice x = hall('A', 2);
        due("before any splitting", INDEX, () -> x.times(0));
        weight(x, 0, 1, 1);
        x.multiply(0, 0);
        weight(x, 0, 2, 1);
        x.isConsistent();
        x.dominant(0);
        due("times 2", 2, () -> x.times(2));
        due("times 4", 1, () -> x.times(4));
        due("times 5", INDEX, () -> x.times(5));
        due("times -1", INDEX, () -> x.times(-1));
        due("times least", INDEX, () -> x.times(LEAST));
    }

    private static void promise31() {
        promise = 31;
        due("A1", 0.5f, () -> hall('A', 1).meanLength());
        due("A2", 1.5f, () -> hall('A', 2).meanLength());
        due("B2", 2.0f, () -> hall('B', 2).meanLength());
        due("C3", 4.5f, () -> hall('C', 3).meanLength());
        due("D4", 6.0f, () -> hall('D', 4).meanLength());
    }

    private static void promise32() {
        promise = 32;
        Weightlattice x = hall('A', 2);
        weight(x, 0, 1, 0);
        weight(x, 1, 1, 1);
        weight(x, 2, 0, -1);
        due("3 to 8", 0.375, () -> x.ratio(0, 1));
        due("8 to 3", 8.0 / 3.0, () -> x.ratio(1, 0));
        due("8 to 8", 1.0, () -> x.ratio(1, 1));
        due("the one is not dominant", UNSUPPORTED, () -> x.ratio(2, 0));
        due("the other is not dominant", UNSUPPORTED, () -> x.ratio(0, 2));
        due("the register comes first", INDEX, () -> x.ratio(2, 4));
        due("ratio -1 0", INDEX, () -> x.ratio(-1, 0));
        due("ratio 0 -1", INDEX, () -> x.ratio(0, -1));
        due("31 is taken as not dominant", UNSUPPORTED, () -> raised(31).ratio(0, 1));
        due("496 to 1", 496.0, () -> raised(30).ratio(0, 1));
        Weightlattice d = hall('D', 4);
        weight(d, 3, 9, 9, 9, 9);
        due("great ones", 1e12, () -> d.ratio(3, 0));
        due("great ones", 1e-12, () -> d.ratio(0, 3));
    }

    private static void promise33() {
        promise = 33;
        Weightlattice x = new Weightlattice();
        due("none", '-', x::type);
        char[] types = {'A', 'B', 'C', 'D', 'G'};
        int[] ranks = {4, 3, 3, 4, 2};
        for (int k = 0; k < types.length; k++) {
            x.choose(types[k], ranks[k]);
            due("type", types[k], x::type);
        }
        due("refused", ARGUMENT, () -> x.choose('E', 4));
        due("type", 'G', x::type);
    }

    private static void promise34() {
        promise = 34;
        Weightlattice x = hall('B', 3);
        due("0", true, x::isConsistent);
        weight(x, 0, 1, 0, 1);
        due("48", true, x::isConsistent);
        weight(x, 0, 9, 9, 9);
        due("a great dimension", true, x::isConsistent);
        weight(x, 0, -1, 0, 1);
        due("not dominant", true, x::isConsistent);
        due("nothing is changed", "-1 0 1", () -> weightIn(x, 0, 3));
        weight(x, 1, 1, 0, 0);
        x.multiply(1, 1);
        word(x, 0, 1);
        weight(x, 0, 0, 1, 0);
        due("21", true, x::isConsistent);
        due("what was split stays", "1 x 2 0 0, 1 x 0 1 0, 1 x 0 0 0", () -> parts(x, 3, 3));
        due("the word stays", 2, x::clear);
        due("31 and more", true, () -> raised(31).isConsistent());
        Weightlattice a = hall('A', 1);
        weight(a, 0, 9);
        due("A1", true, a::isConsistent);
        due("no system", STATE, () -> new Weightlattice().isConsistent());
    }
}
