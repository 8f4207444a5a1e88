/**
 * A boundary case of the document each: polynomials, elements, what registers become by arithmetic (Term 2, promises 5 to 11,
 * 20, 23, 24, 28 to 30). DocTest holds the words to it.
 */
public final class ElementBoundsTest {
    private static final int[] NO_REGISTERS = {-1, 10, Integer.MIN_VALUE, Integer.MAX_VALUE};
    private static final int NO_NUMBER = -10000;
    private static final long NO_POWERS = -100000000000000L;

    private ElementBoundsTest() {
    }

    public static void main(String[] args) {
        Check.runAll(ElementBoundsTest.class);
    }

    /** All terms of a polynomial, each as its number and its rows: "1:d 1 .. d n e 1 .. e n". */
    private static String termsOf(HallRegisters x, int k) {
        StringBuilder all = new StringBuilder();
        for (int t = 0; t < x.terms(k); t++) {
            all.append(t > 0 ? " " : "").append(x.term(k, t, 0)).append(':');
            for (int what = 1; what <= 2 * x.look(0); what++) {
                all.append(x.term(k, t, what));
            }
        }
        return all.toString();
    }

    /** Register 5 is made; "OVER" if not. */
    private static void madeDue(HallRegisters x, String call, boolean made, String due) {
        Check.due(call, made ? Check.row(x, 5) : "OVER", due);
    }

    private static void productDue(HallRegisters x, int[] a, int[] b, String due) {
        Check.setRow(x, 0, a);
        Check.setRow(x, 1, b);
        madeDue(x, "multiply", x.multiply(5, 0, 1), due);
    }

    private static int[] row(int... exponents) {
        return exponents;
    }

    // ---- Term 2: polynomials

    /** Term 2: "that one in 2 n numbers a 1 .. a n, b 1 .. b n". */
    static void twiceNNumbers() {
        HallRegisters x = Check.of("1");
        Check.due("POLYNOMIAL 1", termsOf(x, 1), "1:01 1:10");
        Check.due("term(1, 0, 3)", x.term(1, 0, 3), NO_NUMBER);
        x = Check.of("111111");
        Check.due("POLYNOMIAL 6", termsOf(x, 6), "1:000000000001 1:000001000000");
        Check.due("term(6, 0, 12)", x.term(6, 0, 12), 1);
        Check.due("term(6, 0, 13)", x.term(6, 0, 13), NO_NUMBER);
    }

    /** Term 2: "is WEIGHT of k at most". */
    static void termsAreLightEnough() {
        HallRegisters x = Check.ofKind(1);
        for (int k = 1; k <= 5; k++) {
            Check.due("the greatest WEIGHT of POLYNOMIAL " + k, x.shape(k, 1), "11233".charAt(k - 1) - '0');
        }
        // a 2 b 1 has WEIGHT 2, c has 3
        x = Check.of("113", "213:2");
        Check.due("POLYNOMIAL 3", termsOf(x, 3), "1:000001 1:001000 2:010100");
        Check.due("the greatest WEIGHT", x.shape(3, 1), 3);
    }

    /** Term 2: "whatever these numbers are from 0 on". */
    static void polynomialsTellWhatIsCollected() {
        for (int row = 0; row < 81; row++) {
            collectedDue(row % 3, row / 3 % 3, 1, row / 9 % 3, row / 27);
        }
        collectedDue(0, 3, 0, 3, 3);
        collectedDue(0, 0, 5, 5, 5);
        collectedDue(2, 2, 3, 3, 3);
    }

    /** Letters a, b, c as many as a 1, a 2, a 3, then letters a, b as many as b 1, b 2. */
    private static void collectedDue(int a1, int a2, int a3, int b1, int b2) {
        HallRegisters x = Check.ofKind(1);
        String word = "a".repeat(a1) + "b".repeat(a2) + "c".repeat(a3) + "a".repeat(b1) + "b".repeat(b2);
        Check.due("collect " + word, Check.collect(x, word) >= 0, true);
        productDue(x, row(a1, a2, a3, 0, 0), row(b1, b2, 0, 0, 0), Check.collectedRow(x).replace(" -", ""));
    }

    /** Term 2: "x over d: x times x - 1 .. d numbers, by 1 .. d". */
    static void binomials() {
        HallRegisters x = Check.ofKind(1);
        int[] twos = {0, 0, 1, 3, 6, 10};
        for (int v = 0; v < twos.length; v++) {
            productDue(x, row(0, v, 0, 0, 0), row(1, 0, 0, 0, 0), "1 " + v + " " + v + " 0 " + twos[v]);
            productDue(x, row(0, 1, 0, 0, 0), row(v, 0, 0, 0, 0), v + " 1 " + v + " " + twos[v] + " 0");
        }
        productDue(x, row(0, 45, 0, 0, 0), row(1, 0, 0, 0, 0), "1 45 45 0 990");
        productDue(x, row(0, 46, 0, 0, 0), row(1, 0, 0, 0, 0), "OVER");
    }

    /** Term 2: "1 for d 0". */
    static void degreesOfZeroLeaveTheRest() {
        HallRegisters x = Check.ofKind(1);
        productDue(x, row(0, 0, 0, 0, 0), row(7, -8, 9, 10, 11), "7 -8 9 10 11");
        productDue(x, row(7, -8, 9, 10, 11), row(0, 0, 0, 0, 0), "7 -8 9 10 11");
        productDue(x, row(7, 0, 0, 0, 0), row(0, -8, 0, 0, 999), "7 -8 0 0 999");
    }

    /** Term 2: "below 0 likewise". */
    static void binomialsBelowZero() {
        HallRegisters x = Check.ofKind(1);
        int[] twos = {0, 1, 3, 6, 10};
        for (int v = 1; v < twos.length; v++) {
            productDue(x, row(0, -v, 0, 0, 0), row(1, 0, 0, 0, 0), "1 " + -v + " " + -v + " 0 " + twos[v]);
            productDue(x, row(0, 1, 0, 0, 0), row(-v, 0, 0, 0, 0), -v + " 1 " + -v + " " + twos[v] + " 0");
        }
        productDue(x, row(0, -44, 0, 0, 0), row(1, 0, 0, 0, 0), "1 -44 -44 0 990");
        productDue(x, row(0, -45, 0, 0, 0), row(1, 0, 0, 0, 0), "OVER");
        productDue(x, row(0, -44, 0, 0, 0), row(-1, 0, 0, 0, 0), "-1 -44 44 -44 -990");
    }

    /** Term 2: "TERMS: those whose number is not 0". */
    static void noTermsOfZero() {
        HallRegisters x = new HallRegisters();
        Check.due("POLYNOMIAL 3", termsOf(x, 3), "1:000001 1:001000 1:010100");
        Check.due("tail", x.tail(2, 1, 3, 0), true);
        Check.due("POLYNOMIAL 3", termsOf(x, 3), "1:000001 1:001000");
        x = Check.of("1112", "214:3");
        Check.due("POLYNOMIAL 4", termsOf(x, 4), "1:00000001 1:00010000 3:01001000");
    }

    /** Term 2: "by d 1 .. d n, e 1 .. e n as rows (the lesser ones first)". */
    static void lesserTermsFirst() {
        HallRegisters x = Check.ofKind(1);
        Check.due("POLYNOMIAL 1", termsOf(x, 1), "1:0000010000 1:1000000000");
        Check.due("POLYNOMIAL 4", termsOf(x, 4), "1:0000000010 1:0001000000 1:0010010000 1:0100020000");
        Check.due("POLYNOMIAL 5", termsOf(x, 5), "1:0000000001 1:0000100000 1:0010001000 1:0100011000 1:0200010000");
        x = Check.of("1113", "214:1", "314:2", "324:3");
        Check.due("POLYNOMIAL 4", termsOf(x, 4), "1:00000001 1:00010000 3:00100100 2:00101000 1:01001000");
    }

    // ---- Term 2: elements

    /** Term 2: "rows of n EXPONENTS -999 .. 999". */
    static void exponentsToNineHundredNinetyNine() {
        HallRegisters x = new HallRegisters();
        for (int i = 1; i <= 3; i++) {
            Check.due("999", x.set(0, i, 999), true);
            Check.due("1000", x.set(0, i, 1000), false);
            Check.due("EXPONENT", x.exponent(0, i), 999);
            Check.due("-999", x.set(0, i, -999), true);
            Check.due("-1000", x.set(0, i, -1000), false);
            Check.due("EXPONENT", x.exponent(0, i), -999);
        }
        for (int i = 0; i < 3; i++) {
            int[] most = new int[3];
            int[] one = new int[3];
            most[i] = 998;
            one[i] = 1;
            String due = "0 0 0".substring(0, 2 * i) + "999" + "0 0 0".substring(2 * i + 1);
            productDue(x, most, one, due);
            productDue(x, one, most, due);
            most[i] = 999;
            productDue(x, most, one, "OVER");
            most[i] = -999;
            one[i] = -1;
            productDue(x, most, one, "OVER");
            most[i] = -998;
            productDue(x, most, one, due.replace("999", "-999"));
        }
    }

    /** Term 2: "(on the way to one there may be others, as whole numbers without bounds)". */
    static void beyondOnTheWay() {
        HallRegisters x = new HallRegisters();
        Check.setRow(x, 0, 999, 999, 999);
        Check.setRow(x, 1, 1, 0, 0);
        madeDue(x, "a COMMUTATOR of one with itself", x.commute(5, 0, 0), "0 0 0");
        madeDue(x, "a CONJUGATE by 999 999 999", x.conjugate(5, 1, 0), "1 0 -999");
        madeDue(x, "a CONJUGATE by itself", x.conjugate(5, 0, 0), "999 999 999");
        Check.due("ROOT 1", x.root(5, 0, 1), true);
        Check.rowDue(x, "ROOT 1", 5, "999 999 999");
        madeDue(x, "POWER 0", x.power(5, 0, 0), "0 0 0");
        Check.due("the INVERSE is OVER", x.invert(5, 0), false);
        // -999 times 998, 999 times 999
        Check.setRow(x, 2, 999, -999, 0);
        Check.setRow(x, 3, 998, -999, 0);
        madeDue(x, "a COMMUTATOR", x.commute(5, 2, 3), "0 0 999");
        Check.due("only the INVERSE was OVER", x.look(8), 1);
    }

    /** Term 2: "ONE: all 0". */
    static void oneIsAllZero() {
        HallRegisters x = new HallRegisters();
        Check.due("ONE", x.register(0, 2), 1);
        for (int i = 1; i <= 3; i++) {
            Check.due("set", x.set(0, i, -1), true);
            Check.due("not ONE", x.register(0, 2), 0);
            Check.due("set", x.set(0, i, 0), true);
            Check.due("ONE", x.register(0, 2), 1);
        }
        Check.due("REGISTERS that are not ONE", x.look(5), 0);
    }

    /** Term 2: "INVERSE of a: that with which a has the PRODUCT ONE". */
    static void inverses() {
        HallRegisters x = Check.ofKind(1);
        madeDue(x, "the INVERSE of ONE", x.invert(5, 0), "0 0 0 0 0");
        Check.setRow(x, 0, 3, -2, 5, -7, 11);
        Check.due("invert", x.invert(1, 0), true);
        madeDue(x, "a PRODUCT with the INVERSE", x.multiply(5, 0, 1), "0 0 0 0 0");
        madeDue(x, "a PRODUCT of the INVERSE", x.multiply(5, 1, 0), "0 0 0 0 0");
    }

    /** Term 2: "POWER m (-99 .. 99)". */
    static void powersToNinetyNine() {
        HallRegisters x = new HallRegisters();
        Check.setRow(x, 0, 10, 0, -10);
        madeDue(x, "POWER 99", x.power(5, 0, 99), "990 0 -990");
        madeDue(x, "POWER -99", x.power(5, 0, -99), "-990 0 990");
        Check.due("set", x.set(5, 1, 4), true);
        for (int m : new int[] {100, -100, 101, Integer.MIN_VALUE, Integer.MAX_VALUE, 1 << 16}) {
            Check.due("POWER " + m + " of another", x.power(5, 0, m), false);
            Check.due("POWER " + m + " of ONE", x.power(5, 1, m), false);
        }
        Check.rowDue(x, "refused", 5, "4 0 990");
        Check.due("none was OVER", x.look(8), 0);
    }

    /** Term 2: "as many times itself, of the INVERSE for m below 0". */
    static void powersAreProducts() {
        HallRegisters x = Check.ofKind(1);
        Check.setRow(x, 0, 2, -1, 1, 0, -1);
        Check.due("invert", x.invert(1, 0), true);
        madeDue(x, "POWER 0", x.power(5, 0, 0), "0 0 0 0 0");
        for (int m = 1; m <= 4; m++) {
            Check.due("PRODUCT", x.multiply(2, 2, 0), true);
            madeDue(x, "POWER " + m, x.power(5, 0, m), Check.row(x, 2));
            Check.due("PRODUCT", x.multiply(3, 3, 1), true);
            madeDue(x, "POWER " + -m, x.power(5, 0, -m), Check.row(x, 3));
        }
    }

    /** Term 2: "COMMUTATOR of a, b: INVERSE of a, INVERSE of b, a, b multiplied in this order." */
    static void commutatorsAndConjugates() {
        for (int kind = 0; kind <= 2; kind++) {
            HallRegisters x = Check.ofKind(kind);
            for (int i = 1; i <= x.look(0); i++) {
                Check.due("set", x.set(0, i, 3 - 2 * i), true);
                Check.due("set", x.set(1, i, i * i - 4), true);
            }
            Check.due("INVERSE of a", x.invert(2, 0), true);
            Check.due("INVERSE of b", x.invert(3, 1), true);
            Check.due("both", x.multiply(2, 2, 3), true);
            Check.due("and a", x.multiply(2, 2, 0), true);
            Check.due("and b", x.multiply(2, 2, 1), true);
            madeDue(x, "the COMMUTATOR of KIND " + kind, x.commute(5, 0, 1), Check.row(x, 2));
            Check.due("a and b", x.multiply(4, 0, 1), true);
            Check.due("INVERSE of b, a, b", x.multiply(4, 3, 4), true);
            madeDue(x, "the CONJUGATE of KIND " + kind, x.conjugate(5, 0, 1), Check.row(x, 4));
        }
    }

    /** Term 2: "ROOT m (1 .. 99) of a". */
    static void rootsToNinetyNine() {
        HallRegisters x = new HallRegisters();
        Check.setRow(x, 0, 99, -99, 0);
        Check.due("ROOT 1", x.root(5, 0, 1), true);
        Check.rowDue(x, "ROOT 1", 5, "99 -99 0");
        // 99 v - 99 times 98 / 2 is 0
        Check.due("ROOT 99", x.root(5, 0, 99), true);
        Check.rowDue(x, "ROOT 99", 5, "1 -1 49");
        for (int m : new int[] {0, -1, -99, 100, Integer.MIN_VALUE, Integer.MAX_VALUE}) {
            Check.due("ROOT " + m + " of another", x.root(5, 0, m), false);
            Check.due("ROOT " + m + " of ONE", x.root(5, 1, m), false);
        }
        Check.rowDue(x, "refused", 5, "1 -1 49");
    }

    private static void rootDue(HallRegisters x, int m, String due, int... exponents) {
        Check.setRow(x, 0, exponents);
        Check.due("ROOT " + m, x.root(5, 0, m) ? Check.row(x, 5) : "none", due);
    }

    /** Term 2: "that ELEMENT whose POWER m is a, if there is one". */
    static void rootsAreElements() {
        HallRegisters x = new HallRegisters();
        rootDue(x, 2, "1 1 3", 2, 2, 7);
        rootDue(x, 2, "none", 2, 2, 8);
        rootDue(x, 2, "none", 1, 0, 0);
        rootDue(x, 2, "none", -1, 0, 0);
        rootDue(x, 2, "none", 0, 1, 0);
        rootDue(x, 3, "-333 0 333", -999, 0, 999);
        rootDue(x, 3, "none", -998, 0, 999);
        // the square of (50, -30, v) is (100, -60, 2 v - 1500)
        rootDue(x, 2, "50 -30 999", 100, -60, 498);
        rootDue(x, 2, "none", 100, -60, 500);
        rootDue(x, 2, "50 30 -999", 100, 60, -498);
        rootDue(x, 2, "none", 100, 60, -500);
        rootDue(x, 7, "0 0 0", 0, 0, 0);
        Check.due("a ROOT is not counted as OVER", x.look(8), 0);
        // m over 3 of the power of (1, 1, 0, 0, 0) is 1 for 4, 2 for 5
        x = Check.ofKind(1);
        rootDue(x, 3, "1 1 0 0 0", 3, 3, 3, 1, 5);
        rootDue(x, 3, "1 1 0 0 1", 3, 3, 3, 1, 8);
        rootDue(x, 3, "none", 3, 3, 3, 1, 6);
        rootDue(x, 3, "none", 3, 3, 3, 2, 5);
        rootDue(x, 3, "none", 3, 3, 4, 1, 5);
    }

    /** Term 2: "What would have an EXPONENT beyond is OVER: refused." */
    static void overChangesNothing() {
        HallRegisters x = new HallRegisters();
        Check.setRow(x, 0, 999, 999, 999);
        Check.setRow(x, 1, -998, 1, 0);
        Check.setRow(x, 2, 4, 5, 6);
        String before = Check.state(x);
        int acts = x.look(6);
        Check.due("multiply", x.multiply(2, 0, 0), false);
        Check.due("invert", x.invert(2, 0), false);
        Check.due("power", x.power(2, 0, 2), false);
        Check.due("commute", x.commute(2, 0, 1), false);
        Check.due("conjugate", x.conjugate(2, 0, 1), false);
        Check.due("multiply itself", x.multiply(0, 0, 0), false);
        Check.due("all as before", Check.state(x), before);
        Check.due("ACTS", x.look(6), acts);
        Check.due("OVER", x.look(8), 6);
    }

    /** Term 2: "REGISTERS 0 .. 9 have an ELEMENT each (ONE at first)". */
    static void tenRegisters() {
        HallRegisters x = new HallRegisters();
        for (int register = 0; register <= 9; register++) {
            Check.rowDue(x, "at first", register, "0 0 0");
            Check.due("set", x.set(register, 1, register + 1), true);
        }
        for (int register = 0; register <= 9; register++) {
            Check.due("EXPONENT", x.exponent(register, 1), register + 1);
        }
        Check.due("set(-1, 1, 1)", x.set(-1, 1, 1), false);
        Check.due("set(10, 1, 1)", x.set(10, 1, 1), false);
        Check.due("exponent(-1, 1)", x.exponent(-1, 1), NO_NUMBER);
        Check.due("exponent(10, 1)", x.exponent(10, 1), NO_NUMBER);
    }

    /** Term 2: "In a GROUP that is not CONSISTENT nothing of this can be." */
    static void nothingWithoutConsistency() {
        HallRegisters x = Check.notConsistent();
        int acts = x.look(6);
        Check.due("set", x.set(0, 1, 0), false);
        Check.due("multiply", x.multiply(0, 0, 0), false);
        Check.due("invert", x.invert(0, 0), false);
        Check.due("power", x.power(0, 0, 1), false);
        Check.due("commute", x.commute(0, 0, 0), false);
        Check.due("conjugate", x.conjugate(0, 0, 0), false);
        Check.due("root", x.root(0, 0, 1), false);
        Check.due("terms", x.terms(1), -1);
        Check.due("term", x.term(1, 0, 0), NO_NUMBER);
        Check.due("shape", x.shape(1, 0), NO_NUMBER);
        Check.due("ACTS", x.look(6), acts);
        Check.due("OVER", x.look(8), 0);
        Check.due("tail", x.tail(4, 2, 6, 1), true);
        Check.due("set", x.set(0, 1, 0), true);
    }

    // ---- promises 5 to 11

    /** Promise 5: "An EXPONENT of a REGISTER (i 1 .. n): true; false if one can't be". */
    static void setWithinBounds() {
        HallRegisters x = new HallRegisters();
        Check.due("set(0, 1, 1)", x.set(0, 1, 1), true);
        Check.due("set(9, 3, -1)", x.set(9, 3, -1), true);
        for (int i : new int[] {0, 4, -1, Integer.MIN_VALUE, Integer.MAX_VALUE}) {
            Check.due("set(0, " + i + ", 1)", x.set(0, i, 1), false);
        }
        for (int v : new int[] {1000, -1000, Integer.MIN_VALUE, Integer.MAX_VALUE}) {
            Check.due("set(0, 1, " + v + ")", x.set(0, 1, v), false);
        }
        Check.rowDue(x, "set", 0, "1 0 0");
        Check.rowDue(x, "set", 9, "0 0 -1");
        Check.due("ACTS", x.look(6), 2);
        Check.due("set is not counted as OVER", x.look(8), 0);
        x = Check.of("111111");
        Check.due("set(0, 6, 5)", x.set(0, 6, 5), true);
        Check.due("set(0, 7, 5)", x.set(0, 7, 5), false);
        Check.rowDue(x, "set", 0, "0 0 0 0 0 5");
        x = Check.of("1");
        Check.due("set(0, 1, 5)", x.set(0, 1, 5), true);
        Check.due("set(0, 2, 5)", x.set(0, 2, 5), false);
    }

    /** Promise 5: "(so below: no such REGISTER, not CONSISTENT, OVER)". */
    static void noSuchRegister() {
        HallRegisters x = new HallRegisters();
        Check.setRow(x, 0, 999, 999, 999);
        for (int no : NO_REGISTERS) {
            Check.due("set(no)", x.set(no, 1, 1), false);
            for (int at = 0; at < 3; at++) {
                int r = at == 0 ? no : 1;
                int a = at == 1 ? no : 0;
                int b = at == 2 ? no : 0;
                Check.due("multiply, no " + at, x.multiply(r, a, b), false);
                Check.due("commute, no " + at, x.commute(r, a, b), false);
                Check.due("conjugate, no " + at, x.conjugate(r, a, b), false);
            }
            Check.due("invert(no, 0)", x.invert(no, 0), false);
            Check.due("invert(1, no)", x.invert(1, no), false);
            Check.due("power(no, 0, 2)", x.power(no, 0, 2), false);
            Check.due("power(1, no, 2)", x.power(1, no, 2), false);
            Check.due("root(no, 0, 1)", x.root(no, 0, 1), false);
            Check.due("root(1, no, 1)", x.root(1, no, 1), false);
        }
        Check.due("REGISTERS that are not ONE", x.look(5), 1);
        Check.due("ACTS", x.look(6), 3);
        Check.due("what has no REGISTER is not made, so not OVER", x.look(8), 0);
    }

    /** Promise 6: "REGISTER r is the PRODUCT of those of a and b." */
    static void multiplyToTheEdge() {
        HallRegisters x = new HallRegisters();
        productDue(x, row(0, 27, 0), row(37, 0, 0), "37 27 999");
        productDue(x, row(0, -27, 0), row(37, 0, 0), "37 -27 -999");
        productDue(x, row(0, 40, 0), row(25, 0, 0), "OVER");
        productDue(x, row(0, -40, 0), row(25, 0, 0), "OVER");
        productDue(x, row(40, 0, 0), row(0, 25, 0), "40 25 0");
        productDue(x, row(0, 40, -1), row(25, 0, 0), "25 40 999");
        productDue(x, row(0, 999, -999), row(2, 0, 0), "2 999 999");
        Check.due("OVER", x.look(8), 2);
        Check.setRow(x, 0, 4, 5, 0);
        Check.due("multiply(0, 0, 0)", x.multiply(0, 0, 0), true);
        Check.rowDue(x, "by itself, into itself", 0, "8 10 20");
        Check.setRow(x, 9, 1, 0, 0);
        Check.due("multiply(9, 0, 9)", x.multiply(9, 0, 9), true);
        Check.rowDue(x, "into the second", 9, "9 10 30");
    }

    private static void inverseDue(HallRegisters x, String due, int... exponents) {
        Check.setRow(x, 0, exponents);
        madeDue(x, "invert", x.invert(5, 0), due);
    }

    /** Promise 7: "REGISTER r is the INVERSE." */
    static void invertToTheEdge() {
        HallRegisters x = new HallRegisters();
        inverseDue(x, "-999 0 999", 999, 0, -999);
        inverseDue(x, "-37 -27 999", 37, 27, 0);
        inverseDue(x, "-37 27 -999", 37, -27, 0);
        inverseDue(x, "OVER", 40, 25, 0);
        inverseDue(x, "OVER", 40, -25, 0);
        inverseDue(x, "-1 -1 999", 1, 1, -998);
        inverseDue(x, "OVER", 1, 1, -999);
        inverseDue(x, "-1 1 -999", 1, -1, 998);
        inverseDue(x, "OVER", 1, -1, 999);
        Check.due("OVER", x.look(8), 4);
        Check.due("into itself", x.invert(5, 5), true);
        Check.rowDue(x, "into itself", 5, "1 -1 998");
    }

    private static void powerDue(HallRegisters x, int m, String due, int... exponents) {
        Check.setRow(x, 0, exponents);
        madeDue(x, "power " + m, x.power(5, 0, m), due);
    }

    /** Promise 8: "REGISTER r is the POWER m." */
    static void powerToTheEdge() {
        HallRegisters x = new HallRegisters();
        powerDue(x, 3, "999 0 -999", 333, 0, -333);
        powerDue(x, -3, "-999 0 999", 333, 0, -333);
        powerDue(x, 2, "OVER", 500, 0, 0);
        powerDue(x, -2, "OVER", 500, 0, 0);
        powerDue(x, 2, "OVER", 0, 0, -500);
        powerDue(x, 2, "74 54 999", 37, 27, 0);
        powerDue(x, 2, "OVER", 40, 25, 0);
        powerDue(x, 2, "OVER", 40, -25, 0);
        powerDue(x, 99, "99 0 0", 1, 0, 0);
        // 99 v + 99 times 98 / 2
        powerDue(x, 99, "99 99 0", 1, 1, -49);
        powerDue(x, 99, "OVER", 1, 1, -38);
        powerDue(x, 1, "999 999 999", 999, 999, 999);
        powerDue(x, 0, "0 0 0", 999, 999, 999);
        powerDue(x, -1, "OVER", 999, 999, 999);
        Check.due("OVER", x.look(8), 7);
        Check.setRow(x, 0, 2, 0, 1);
        Check.due("into itself", x.power(0, 0, -2), true);
        Check.rowDue(x, "into itself", 0, "-4 0 -2");
    }

    private static void commutatorDue(HallRegisters x, int[] a, int[] b, String due) {
        Check.setRow(x, 0, a);
        Check.setRow(x, 1, b);
        madeDue(x, "commute", x.commute(5, 0, 1), due);
    }

    /** Promise 9: "REGISTER r is the COMMUTATOR." */
    static void commuteToTheEdge() {
        HallRegisters x = new HallRegisters();
        commutatorDue(x, row(0, 27, 0), row(37, 0, 0), "0 0 999");
        commutatorDue(x, row(37, 0, 0), row(0, 27, 0), "0 0 -999");
        commutatorDue(x, row(0, 40, 0), row(25, 0, 0), "OVER");
        commutatorDue(x, row(25, 0, 0), row(0, 40, 0), "OVER");
        commutatorDue(x, row(999, 999, 999), row(999, 999, -999), "0 0 0");
        commutatorDue(x, row(999, 999, 0), row(999, 998, 0), "0 0 999");
        commutatorDue(x, row(0, 0, 999), row(999, 999, 999), "0 0 0");
        Check.due("OVER", x.look(8), 2);
        Check.due("of one with itself into itself", x.commute(1, 1, 1), true);
        Check.rowDue(x, "of one with itself into itself", 1, "0 0 0");
    }

    private static void conjugateDue(HallRegisters x, int[] a, int[] u, String due) {
        Check.setRow(x, 0, a);
        Check.setRow(x, 1, u);
        madeDue(x, "conjugate", x.conjugate(5, 0, 1), due);
    }

    /** Promise 10: "REGISTER r is the CONJUGATE of a by u." */
    static void conjugateToTheEdge() {
        HallRegisters x = new HallRegisters();
        conjugateDue(x, row(0, 1, 0), row(999, 0, 0), "0 1 999");
        conjugateDue(x, row(0, 1, 1), row(999, 0, 0), "OVER");
        conjugateDue(x, row(1, 0, 0), row(0, 999, 0), "1 0 -999");
        conjugateDue(x, row(1, 0, -1), row(0, 999, 0), "OVER");
        conjugateDue(x, row(999, 999, 999), row(0, 0, 0), "999 999 999");
        conjugateDue(x, row(0, 0, 0), row(999, 999, 999), "0 0 0");
        conjugateDue(x, row(0, 999, -999), row(2, 0, 0), "0 999 999");
        Check.due("OVER", x.look(8), 2);
        Check.due("by itself into itself", x.conjugate(0, 0, 0), true);
        Check.rowDue(x, "by itself into itself", 0, "0 999 -999");
    }

    /** Promise 11: "REGISTER r is the ROOT m: true; false also if there is none." */
    static void noRootChangesNothing() {
        HallRegisters x = new HallRegisters();
        Check.setRow(x, 0, 3, 3, 3);
        Check.setRow(x, 1, 100, -60, 500);
        Check.setRow(x, 5, 7, 8, 9);
        String before = Check.state(x);
        int acts = x.look(6);
        Check.due("ROOT 2", x.root(5, 0, 2), false);
        Check.due("ROOT 2 would have an EXPONENT beyond", x.root(5, 1, 2), false);
        Check.due("ROOT 0", x.root(5, 0, 0), false);
        Check.due("ROOT 100", x.root(5, 2, 100), false);
        Check.due("all as before", Check.state(x), before);
        Check.due("ACTS", x.look(6), acts);
        Check.due("into itself", x.root(0, 0, 3), true);
        Check.rowDue(x, "into itself", 0, "1 1 0");
        Check.due("of ONE", x.root(5, 9, 99), true);
        Check.rowDue(x, "of ONE", 5, "0 0 0");
        Check.due("OVER", x.look(8), 0);
    }

    // ---- promises 20, 23, 24, 28 to 30

    /** Promise 20: "NONE - 9999 if there is none such." */
    static void noSuchExponent() {
        HallRegisters x = new HallRegisters();
        Check.setRow(x, 9, 1, 2, -3);
        Check.due("exponent(9, 1)", x.exponent(9, 1), 1);
        Check.due("exponent(9, 3)", x.exponent(9, 3), -3);
        for (int i : new int[] {0, 4, -1, Integer.MIN_VALUE, Integer.MAX_VALUE}) {
            Check.due("exponent(9, " + i + ")", x.exponent(9, i), NO_NUMBER);
        }
        for (int no : NO_REGISTERS) {
            Check.due("exponent(" + no + ", 1)", x.exponent(no, 1), NO_NUMBER);
        }
        x = Check.of("111111");
        Check.due("exponent(0, 6)", x.exponent(0, 6), 0);
        Check.due("exponent(0, 7)", x.exponent(0, 7), NO_NUMBER);
        x = Check.of("3");
        Check.due("exponent(0, 2)", x.exponent(0, 2), NO_NUMBER);
    }

    /** Promise 20: "EXPONENT i (1 .. n) of a REGISTER". All are ONE in a group that is not consistent, as in any new one. */
    static void exponentsWithoutConsistency() {
        HallRegisters x = Check.notConsistent();
        Check.due("exponent(0, 6)", x.exponent(0, 6), 0);
        Check.due("exponent(0, 7)", x.exponent(0, 7), NO_NUMBER);
    }

    /** Promise 23: "NONE if there is none." */
    static void noSuchPolynomial() {
        HallRegisters x = new HallRegisters();
        Check.due("terms(1)", x.terms(1), 2);
        Check.due("terms(3)", x.terms(3), 3);
        for (int k : new int[] {0, 4, -1, Integer.MIN_VALUE, Integer.MAX_VALUE}) {
            Check.due("terms(" + k + ")", x.terms(k), -1);
        }
        x = Check.notConsistent();
        for (int k = 0; k <= 7; k++) {
            Check.due("not CONSISTENT terms(" + k + ")", x.terms(k), -1);
        }
    }

    /** Promise 24: "Of its t-th TERM (from 0) what 0 the number, i 1 .. n d i, n and i e i." */
    static void termsFromZero() {
        HallRegisters x = new HallRegisters();
        Check.due("tail", x.tail(2, 1, 3, 3), true);
        int[][] due = {{1, 0, 0, 0, 0, 0, 1}, {1, 0, 0, 1, 0, 0, 0}, {3, 0, 1, 0, 1, 0, 0}};
        for (int t = 0; t < 3; t++) {
            for (int what = 0; what <= 6; what++) {
                Check.due("term(3, " + t + ", " + what + ")", x.term(3, t, what), due[t][what]);
            }
        }
    }

    /** Promise 24: "NONE - 9999 if there is none such, or another what." */
    static void noSuchTerm() {
        HallRegisters x = new HallRegisters();
        for (int t : new int[] {-1, 3, Integer.MIN_VALUE, Integer.MAX_VALUE}) {
            Check.due("term(3, " + t + ", 0)", x.term(3, t, 0), NO_NUMBER);
            Check.due("term(3, " + t + ", 6)", x.term(3, t, 6), NO_NUMBER);
        }
        for (int what : new int[] {-1, 7, Integer.MIN_VALUE, Integer.MAX_VALUE}) {
            Check.due("term(3, 0, " + what + ")", x.term(3, 0, what), NO_NUMBER);
        }
        for (int k : new int[] {0, 4, -1, Integer.MIN_VALUE, Integer.MAX_VALUE}) {
            Check.due("term(" + k + ", 0, 0)", x.term(k, 0, 0), NO_NUMBER);
        }
        Check.due("a term of another POLYNOMIAL", x.term(1, 2, 0), NO_NUMBER);
    }

    /** Promise 28: "NONE - 9999 if there is none, or another what." */
    static void noSuchShape() {
        HallRegisters x = new HallRegisters();
        for (int what = 0; what <= 3; what++) {
            Check.due("shape(3, " + what + ")", x.shape(3, what), new int[] {2, 2, 0, 3}[what]);
            for (int k : new int[] {0, 4, -1, Integer.MIN_VALUE, Integer.MAX_VALUE}) {
                Check.due("shape(" + k + ", " + what + ")", x.shape(k, what), NO_NUMBER);
            }
        }
        for (int what : new int[] {-1, 4, Integer.MIN_VALUE, Integer.MAX_VALUE}) {
            Check.due("shape(3, " + what + ")", x.shape(3, what), NO_NUMBER);
        }
        x = Check.notConsistent();
        for (int what = 0; what <= 3; what++) {
            Check.due("not CONSISTENT shape(1, " + what + ")", x.shape(1, what), NO_NUMBER);
        }
    }

    /** Promise 28: "Of the POLYNOMIAL of k". */
    static void shapesOfTheLatestGroup() {
        HallRegisters x = Check.ofKind(1);
        Check.due("kind", x.kind(0), true);
        for (int what = 0; what <= 3; what++) {
            Check.due("shape(1, " + what + ")", x.shape(1, what), new int[] {1, 1, 0, 2}[what]);
            Check.due("shape(3, " + what + ")", x.shape(3, what), new int[] {2, 2, 0, 3}[what]);
        }
        Check.due("group", x.group(5, Check.weights("11111")), true);
        for (int what = 0; what <= 3; what++) {
            Check.due("shape(5, " + what + ")", x.shape(5, what), new int[] {1, 1, 0, 2}[what]);
        }
    }

    /** Promise 28: "0 the greatest degree of a TERM (all d and e together)". */
    static void greatestDegrees() {
        HallRegisters x = Check.ofKind(1);
        for (int k = 1; k <= 5; k++) {
            Check.due("shape(" + k + ", 0)", x.shape(k, 0), "11233".charAt(k - 1) - '0');
        }
        Check.due("a WEIGHT of 3, a degree of 1", Check.of("3").shape(1, 0), 1);
        Check.due("a WEIGHT of 3, a degree of 2", Check.of("123", "213:1").shape(3, 0), 2);
    }

    /** Promise 28: "1 the greatest WEIGHT of one". */
    static void greatestWeights() {
        HallRegisters x = Check.of("123", "213:1");
        for (int k = 1; k <= 3; k++) {
            Check.due("shape(" + k + ", 1)", x.shape(k, 1), k);
        }
    }

    /** Promise 28: "2 how many TERMS have a GENERATOR's number in both rows (a d and an e of the same i above 0)". */
    static void termsWithOneInBothRows() {
        HallRegisters x = Check.ofKind(1);
        // a 2 b 1 b 2
        for (int k = 1; k <= 5; k++) {
            Check.due("shape(" + k + ", 2)", x.shape(k, 2), k == 5 ? 1 : 0);
        }
        // letters 5 of 4 and 1 too: a 2 b 1 b 2 and a 2 b 1 b 1, which is of one row
        x = Check.of("11223", "213:1", "315:1", "325:1");
        Check.due("shape(5, 2)", x.shape(5, 2), 1);
        // 3 2: b; 3 1: c; 2 1: a 3 b 3 b 2, a 3 b 3 b 1, a 2 b 2 b 1 ..
        x = Check.of("111223", "214:1", "416:1", "426:1", "325:1", "526:1", "536:1");
        Check.due("consistent()", x.consistent(), 1);
        Check.due("shape(6, 2)", x.shape(6, 2), 2);
    }

    /** Promise 28: "3 the sum of all numbers". */
    static void sumsOfNumbers() {
        HallRegisters x = Check.of("113", "213:3");
        Check.due("shape(1, 3)", x.shape(1, 3), 2);
        Check.due("shape(3, 3)", x.shape(3, 3), 5);
        Check.due("tail", x.tail(2, 1, 3, 0), true);
        Check.due("shape(3, 3)", x.shape(3, 3), 2);
    }

    /** Promise 29: "Of POWERS of a REGISTER as a polynomial for EXPONENT k the number of i (0 .. 3)." */
    static void powersZeroToThree() {
        HallRegisters x = Check.ofKind(1);
        Check.setRow(x, 0, 1, 1, 0, 0, 0);
        long[][] due = {{0, 1, 0, 0}, {0, 1, 0, 0}, {0, 0, 1, 0}, {0, 0, 0, 1}, {0, 0, 1, 2}};
        for (int k = 1; k <= 5; k++) {
            for (int i = 0; i <= 3; i++) {
                Check.due("powers(0, " + k + ", " + i + ")", x.powers(0, k, i), due[k - 1][i]);
                Check.due("powers of ONE", x.powers(9, k, i), 0);
            }
        }
        Check.setRow(x, 0, 999, 999, 999, 999, 999);
        Check.due("of the greatest, 2 for 4", x.powers(0, 4, 2), 999L * 999 + 999L * 999 * 998 / 2);
        Check.due("of the greatest, 3 for 4", x.powers(0, 4, 3), 999L * 999 * 999);
        Check.setRow(x, 0, -999, -999, -999, -999, -999);
        Check.due("of the least, 1 for 4", x.powers(0, 4, 1), -999);
        Check.due("of the least, 3 for 4", x.powers(0, 4, 3), -999L * 999 * 999);
    }

    /** Promise 29: "NONE - 99999999999999 if there is none such, or it is not CONSISTENT." */
    static void noSuchPowers() {
        HallRegisters x = new HallRegisters();
        for (int i : new int[] {-1, 4, Integer.MIN_VALUE, Integer.MAX_VALUE}) {
            Check.due("powers(0, 1, " + i + ")", x.powers(0, 1, i), NO_POWERS);
        }
        for (int k : new int[] {0, 4, -1, Integer.MIN_VALUE, Integer.MAX_VALUE}) {
            Check.due("powers(0, " + k + ", 1)", x.powers(0, k, 1), NO_POWERS);
        }
        for (int no : NO_REGISTERS) {
            Check.due("powers(" + no + ", 1, 1)", x.powers(no, 1, 1), NO_POWERS);
        }
        Check.due("powers(9, 3, 3)", x.powers(9, 3, 3), 0);
        Check.due("not CONSISTENT powers(0, 1, 1)", Check.notConsistent().powers(0, 1, 1), NO_POWERS);
    }

    /** Promise 30: "without bounds on the way (1, 0)". */
    static void associatesBeyondBounds() {
        for (int kind = 0; kind <= 3; kind++) {
            HallRegisters x = Check.ofKind(kind);
            for (int i = 1; i <= x.look(0); i++) {
                Check.due("set", x.set(0, i, 999), true);
                Check.due("set", x.set(1, i, -999), true);
                Check.due("set", x.set(2, i, i % 2 == 0 ? 999 : -998), true);
            }
            for (int row = 0; row < 27; row++) {
                Check.due("associates of KIND " + kind, x.associates(row % 3, row / 3 % 3, row / 9), 1);
            }
            Check.due("OVER", x.look(8), 0);
        }
    }

    /** Promise 30: "NONE likewise." */
    static void associatesWithoutOne() {
        HallRegisters x = new HallRegisters();
        Check.due("associates(9, 9, 9)", x.associates(9, 9, 9), 1);
        for (int no : NO_REGISTERS) {
            Check.due("associates(no, 0, 0)", x.associates(no, 0, 0), -1);
            Check.due("associates(0, no, 0)", x.associates(0, no, 0), -1);
            Check.due("associates(0, 0, no)", x.associates(0, 0, no), -1);
        }
        Check.due("not CONSISTENT associates(0, 0, 0)", Check.notConsistent().associates(0, 0, 0), -1);
    }
}
