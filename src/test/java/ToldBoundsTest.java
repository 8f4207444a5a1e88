import java.util.Arrays;

/**
 * A boundary case of the document each: what is sought and told of registers, and short words (Term 3, promises 12, 25 to 27,
 * 31). DocTest holds the words to it.
 */
public final class ToldBoundsTest {
    private static final int[] NO_REGISTERS = {-1, 10, Integer.MIN_VALUE, Integer.MAX_VALUE};

    private ToldBoundsTest() {
    }

    public static void main(String[] args) {
        Check.runAll(ToldBoundsTest.class);
    }

    private static void toldDue(HallRegisters x, int what, int due, int... exponents) {
        Check.setRow(x, 0, exponents);
        Check.due("register(0, " + what + ") of " + Check.row(x, 0), x.register(0, what), due);
    }

    private static void soughtDue(HallRegisters x, int bound, String due, int[] a, int[] y) {
        Check.setRow(x, 0, a);
        Check.setRow(x, 1, y);
        Check.due("seek within " + bound, x.seek(5, 0, 1, bound) ? Check.row(x, 5) : "none", due);
    }

    private static void alikeDue(HallRegisters x, int due, int[] a, int[] y) {
        Check.setRow(x, 0, a);
        Check.setRow(x, 1, y);
        Check.due("alike of " + Arrays.toString(a) + " and " + Arrays.toString(y), x.alike(0, 1), due);
        Check.due("alike of " + Arrays.toString(y) + " and " + Arrays.toString(a), x.alike(1, 0), due);
    }

    private static int[] row(int... exponents) {
        return exponents;
    }

    // ---- Term 3

    /** Term 3: "(CLASS and 1 for ONE)". */
    static void layerOfOne() {
        for (String weights : new String[] {"1", "2", "3", "111111", "112", "113", "112233"}) {
            HallRegisters x = Check.of(weights);
            Check.due("LAYER of ONE in " + weights, x.register(0, 0), weights.charAt(weights.length() - 1) - '0' + 1);
        }
    }

    /** Term 3: "the least WEIGHT of a GENERATOR whose EXPONENT is not 0". */
    static void layerOfTheFirstThatIsNotZero() {
        HallRegisters x = Check.ofKind(1);
        toldDue(x, 0, 3, 0, 0, 0, 0, -999);
        toldDue(x, 0, 3, 0, 0, 0, 1, 0);
        toldDue(x, 0, 2, 0, 0, -1, 999, 0);
        toldDue(x, 0, 1, 0, -1, 999, 0, 0);
        toldDue(x, 0, 1, 1, 0, 0, 0, 0);
    }

    /** Term 3: "it commutes with all GENERATORS". */
    static void centralElements() {
        HallRegisters x = new HallRegisters();
        toldDue(x, 1, 1, 0, 0, 0);
        toldDue(x, 1, 1, 0, 0, -999);
        toldDue(x, 1, 0, 1, 0, 0);
        toldDue(x, 1, 0, 0, -1, 0);
        x = Check.of("1123", "324:1");
        toldDue(x, 1, 1, 1, 0, 0, 0);
        toldDue(x, 1, 0, 0, 0, 1, 0);
        toldDue(x, 1, 0, 0, 1, 0, 0);
        // b and c, each not, commute with a by turns
        x = Check.of("1112", "214:1", "314:1");
        toldDue(x, 1, 1, 0, 1, -1, 0);
        toldDue(x, 1, 0, 0, 1, 1, 0);
        toldDue(x, 1, 0, 0, 1, 0, 0);
        x = Check.ofKind(3);
        toldDue(x, 1, 1, 1, 2, 3, 4, 5, 6);
    }

    /** Term 3: "is the sum for i 0 .. 3 of whole numbers times "m over i": these". */
    static void powersAsPolynomials() {
        HallRegisters x = Check.ofKind(1);
        Check.setRow(x, 0, 2, -3, 1, 0, 4);
        for (int m = -4; m <= 4; m++) {
            Check.due("power " + m, x.power(5, 0, m), true);
            for (int k = 1; k <= 5; k++) {
                long sum = x.powers(0, k, 0) + x.powers(0, k, 1) * m + x.powers(0, k, 2) * (m * (m - 1) / 2)
                    + x.powers(0, k, 3) * (m * (m - 1) * (m - 2) / 6);
                Check.due("EXPONENT " + k + " of POWER " + m, x.exponent(5, k), sum);
            }
        }
    }

    /** Term 3: "a bound B (1 .. 3)". */
    static void boundsOneToThree() {
        HallRegisters x = new HallRegisters();
        for (int bound : new int[] {0, -1, 4, 5, Integer.MIN_VALUE, Integer.MAX_VALUE}) {
            soughtDue(x, bound, "none", row(1, 0, 0), row(1, 0, 0));
        }
        for (int bound = 1; bound <= 3; bound++) {
            soughtDue(x, bound, -bound + " 0 0", row(1, 0, 0), row(1, 0, 0));
        }
    }

    /** Term 3: "of those whose EXPONENTS of GENERATORS of WEIGHT below CLASS are -B .. B". */
    static void withinTheBound() {
        HallRegisters x = new HallRegisters();
        for (int b = 1; b <= 3; b++) {
            // the CONJUGATE of (1, 0, 0) is (1, 0, - u 2), that of (0, 1, 0) is (0, 1, u 1)
            soughtDue(x, b, -b + " " + b + " 0", row(1, 0, 0), row(1, 0, -b));
            soughtDue(x, b, -b + " " + -b + " 0", row(1, 0, 0), row(1, 0, b));
            soughtDue(x, b, "none", row(1, 0, 0), row(1, 0, -b - 1));
            soughtDue(x, b, "none", row(1, 0, 0), row(1, 0, b + 1));
            soughtDue(x, b, b + " " + -b + " 0", row(0, 1, 0), row(0, 1, b));
            soughtDue(x, b, -b + " " + -b + " 0", row(0, 1, 0), row(0, 1, -b));
            soughtDue(x, b, "none", row(0, 1, 0), row(0, 1, -b - 1));
            soughtDue(x, b, "none", row(0, 1, 0), row(0, 1, b + 1));
        }
        x = Check.ofKind(1);
        for (int b = 1; b <= 3; b++) {
            // by letters a, then c: letters d
            soughtDue(x, b, -b + " 0 " + -b + " 0 0", row(1, 0, 0, 0, 0), row(1, 0, 0, b, 0));
            soughtDue(x, b, -b + " 0 " + b + " 0 0", row(1, 0, 0, 0, 0), row(1, 0, 0, -b, 0));
            soughtDue(x, b, "none", row(1, 0, 0, 0, 0), row(1, 0, 0, b + 1, 0));
            soughtDue(x, b, "none", row(1, 0, 0, 0, 0), row(1, 0, 0, -b - 1, 0));
        }
    }

    /** Term 3: "the first u with CONJUGATE of a by u being y". */
    static void allExponentsOfTheConjugate() {
        HallRegisters x = Check.ofKind(1);
        int[] a = row(1, 0, 0, 0, 0);
        soughtDue(x, 3, "none", a, row(1, 0, 0, 0, 1));
        soughtDue(x, 3, "none", a, row(1, 0, 0, 1, 1));
        soughtDue(x, 3, "none", a, row(0, 0, 0, 0, 0));
        soughtDue(x, 3, "none", a, row(1, 1, 0, 0, 0));
        // by b b and c: letters c away, letters d and e
        soughtDue(x, 3, "-3 -2 -1 0 0", a, row(1, 0, 2, 1, -3));
        soughtDue(x, 3, "none", a, row(1, 0, 2, 1, -2));
        soughtDue(x, 2, "0 -2 -2 0 0", row(0, 1, 0, 0, 0), row(0, 1, 0, 0, 2));
        soughtDue(x, 1, "none", row(0, 1, 0, 0, 0), row(0, 1, 0, 0, 2));
        soughtDue(x, 2, "none", row(0, 1, 0, 0, 0), row(0, 1, 0, 1, 2));
    }

    /** Term 3: "all others 0". */
    static void ofWeightClassNothing() {
        HallRegisters x = new HallRegisters();
        soughtDue(x, 3, "-3 -3 0", row(0, 0, 7), row(0, 0, 7));
        for (String weights : new String[] {"1", "3", "111111", "22", "333"}) {
            x = Check.of(weights);
            int[] a = new int[weights.length()];
            soughtDue(x, 3, "0 0 0 0 0 0".substring(0, 2 * weights.length() - 1), a, a);
            int[] y = a.clone();
            y[0] = 1;
            soughtDue(x, 3, "none", a, y);
            y[0] = 0;
            y[y.length - 1] = -1;
            soughtDue(x, 3, "none", a, y);
        }
        x = Check.ofKind(1);
        Check.setRow(x, 0, 1, 0, 0, 0, 0);
        Check.due("alike", x.alike(0, 0), 1);
        Check.due("kind", x.kind(0), true);
        soughtDue(x, 3, "-3 0 0", row(1, 0, 0), row(1, 0, 0));
    }

    /** Term 3: "(by EXPONENT 1, then 2 .., the lesser ones first)". */
    static void lesserOnesFirst() {
        HallRegisters x = new HallRegisters();
        // 2 u 1 - u 2 is 3, then 0
        soughtDue(x, 1, "1 -1 0", row(1, 2, 0), row(1, 2, 3));
        soughtDue(x, 2, "1 -1 0", row(1, 2, 0), row(1, 2, 3));
        soughtDue(x, 3, "0 -3 0", row(1, 2, 0), row(1, 2, 3));
        soughtDue(x, 1, "0 0 0", row(1, 2, 0), row(1, 2, 0));
        soughtDue(x, 2, "-1 -2 0", row(1, 2, 0), row(1, 2, 0));
        soughtDue(x, 3, "-1 -2 0", row(1, 2, 0), row(1, 2, 0));
        soughtDue(x, 2, "-2 -2 0", row(0, 0, 0), row(0, 0, 0));
        // 2 u 2 and u 3 are 0 together
        x = Check.of("1112", "214:2", "314:1");
        soughtDue(x, 2, "-2 -1 2 0", row(1, 0, 0, 0), row(1, 0, 0, 0));
    }

    /** Term 3: "if some row of whole numbers u without bounds makes y the CONJUGATE of a by u". */
    static void alikeWithoutBounds() {
        HallRegisters x = new HallRegisters();
        alikeDue(x, 1, row(1, 0, -30), row(1, 0, 30));
        soughtDue(x, 3, "none", row(1, 0, -30), row(1, 0, 30));
        alikeDue(x, 1, row(2, 0, -30), row(2, 0, 30));
        alikeDue(x, 0, row(2, 0, -30), row(2, 0, 29));
        alikeDue(x, 1, row(30, 29, -30), row(30, 29, 29));
        alikeDue(x, 1, row(-30, 24, 30), row(-30, 24, -30));
        alikeDue(x, 0, row(-30, 24, 30), row(-30, 24, 29));
        alikeDue(x, 0, row(0, 0, 30), row(0, 0, 29));
        alikeDue(x, 0, row(3, 0, 0), row(3, 0, 1));
        alikeDue(x, 0, row(3, 0, 0), row(3, 0, -1));
        alikeDue(x, 1, row(3, 0, 0), row(3, 0, -27));
        alikeDue(x, 0, row(1, 0, 0), row(2, 0, 0));
        alikeDue(x, 0, row(0, 1, 0), row(0, -1, 0));
        alikeDue(x, 1, row(0, 0, 0), row(0, 0, 0));
        // u 1 is 60; u 3 moves d as far as one likes
        x = Check.of("1123", "213:1", "324:1");
        alikeDue(x, 1, row(0, 1, -30, 0), row(0, 1, 30, 0));
        alikeDue(x, 1, row(0, 1, -30, 0), row(0, 1, 30, 30));
        // u 2 is 0, so that what u 3 moves is all
        x = Check.of("1123", "213:1", "314:3");
        alikeDue(x, 1, row(1, 0, 0, 0), row(1, 0, 0, 30));
        alikeDue(x, 0, row(1, 0, 0, 0), row(1, 0, 0, 29));
        // without a WEIGHT of 2: twice 6 u 1 - 3 u 2
        x = Check.of("113", "213:2");
        alikeDue(x, 1, row(3, 6, 0), row(3, 6, 18));
        alikeDue(x, 0, row(3, 6, 0), row(3, 6, 21));
        alikeDue(x, 1, row(6, 3, 0), row(6, 3, 6));
        alikeDue(x, 0, row(6, 3, 0), row(6, 3, 3));
        alikeDue(x, 1, row(1, 0, 0), row(1, 0, -30));
        alikeDue(x, 0, row(1, 0, 0), row(1, 0, -29));
    }

    /** Term 3: "makes y the CONJUGATE of a by u". By weights: what u must be for one moves the next ones. */
    static void alikeByWeights() {
        HallRegisters x = null;
        // the CONJUGATES of a are a and s letters c, any letters d, - (s s + s) / 2 letters e
        int[] es = {-6, -3, -1, 0, 0, -1, -3, -6, -10};
        for (int s = -4; s <= 4; s++) {
            int e = es[s + 4];
            x = Check.ofKind(1);
            alikeDue(x, 1, row(1, 0, 0, 0, 0), row(1, 0, s, 0, e));
            alikeDue(x, 1, row(1, 0, 0, -30, 0), row(1, 0, s, 30, e));
            alikeDue(x, 0, row(1, 0, 0, 0, 0), row(1, 0, s, 0, e + 1));
            alikeDue(x, 0, row(1, 0, 0, 0, 0), row(1, 0, s, 1, e - 1));
        }
        x = Check.ofKind(1);
        // a b leaves the letters c of a a b b; it moves one of d and e for each letter c but one, c two of each
        alikeDue(x, 1, row(2, 2, 0, 0, 0), row(2, 2, 0, 1, 1));
        alikeDue(x, 0, row(2, 2, 0, 0, 0), row(2, 2, 0, 1, 0));
        alikeDue(x, 0, row(2, 2, 0, 0, 0), row(2, 2, 0, 0, 1));
        alikeDue(x, 0, row(2, 2, 1, 0, 0), row(2, 2, 1, 1, 1));
        alikeDue(x, 1, row(2, 2, 1, 0, 0), row(2, 2, 1, 2, 2));
        alikeDue(x, 0, row(2, 2, 1, 0, 0), row(2, 2, 1, 2, 0));
        alikeDue(x, 1, row(2, 2, 0, 0, 0), row(2, 2, 2, 0, 1));
        alikeDue(x, 1, row(2, 2, 0, 0, 0), row(2, 2, 2, -1, 0));
        alikeDue(x, 0, row(2, 2, 0, 0, 0), row(2, 2, 2, 0, 0));
        alikeDue(x, 0, row(2, 2, 0, 0, 0), row(2, 2, 1, 0, 1));
        // a a a b b leaves itself, c moves three letters d and two e
        int[] a = row(3, 2, 0, 0, 0);
        for (int u = 0; u < 9; u++) {
            x = Check.ofKind(1);
            Check.setRow(x, 0, a);
            Check.setRow(x, 1, u / 3 - 1, u % 3 - 1, 0, 0, 0);
            Check.due("conjugate", x.conjugate(2, 0, 1), true);
            int[] y = new int[5];
            for (int i = 0; i < 5; i++) {
                y[i] = x.exponent(2, i + 1);
            }
            alikeDue(x, 1, a, y);
            y[4]++;
            alikeDue(x, 0, a, y);
            y[3] -= 3;
            y[4] -= 3;
            alikeDue(x, 1, a, y);
            y[3] += 2;
            alikeDue(x, 0, a, y);
        }
    }

    /** Term 3: "(without bounds, any many, ONE too)". */
    static void madeElements() {
        HallRegisters x = new HallRegisters();
        toldDue(x, 6, 1, 0, 0, 0);
        toldDue(x, 6, 1, 0, 0, 999);
        toldDue(x, 6, 1, 0, 0, -999);
        toldDue(x, 6, 0, 0, 1, 0);
        toldDue(x, 6, 0, -1, 0, 0);
        x = Check.ofKind(3);
        toldDue(x, 6, 1, 0, 0, 0, 0, 0, 0);
        toldDue(x, 6, 0, 0, 0, 0, 0, 0, 1);
        x = Check.of("1112", "214:2", "314:3");
        toldDue(x, 6, 1, 0, 0, 0, 1);
        x = Check.of("112", "213:3");
        toldDue(x, 6, 0, 0, 0, 998);
        toldDue(x, 6, 1, 0, 0, 999);
        toldDue(x, 6, 1, 0, 0, -999);
        toldDue(x, 6, 0, 0, 0, 1);
        toldDue(x, 6, 0, 0, 0, -1);
    }

    /** Term 3: "BALL of l (0 .. 4)". */
    static void ballsZeroToFour() {
        HallRegisters x = new HallRegisters();
        Check.due("ball(-1)", x.ball(-1), -1);
        Check.due("ball(0)", x.ball(0), 1);
        Check.due("ball(4)", x.ball(4), 135);
        Check.due("ball(5)", x.ball(5), -1);
        Check.due("ball(least)", x.ball(Integer.MIN_VALUE), -1);
        Check.due("ball(greatest)", x.ball(Integer.MAX_VALUE), -1);
    }

    /** Term 3: "PRODUCTS of l at most of GENERATORS of WEIGHT 1 and their INVERSES". */
    static void ballsOfWeightOneAlone() {
        HallRegisters x = new HallRegisters();
        int[] due = {1, 5, 17, 53, 135};
        for (int l = 0; l <= 4; l++) {
            Check.due("ball(" + l + ")", x.ball(l), due[l]);
            Check.due("ball(" + l + ") of no GENERATOR", Check.of("233").ball(l), 1);
            Check.due("ball(" + l + ") of one GENERATOR", Check.of("133").ball(l), 2 * l + 1);
            Check.due("ball(" + l + ") of two GENERATORS", Check.of("112").ball(l), 2 * l * l + 2 * l + 1);
        }
        x = Check.of("123");
        Check.due("ball(4) of 123", x.ball(4), 9);
        Check.due("group", x.group(3, Check.weights("223")), true);
        Check.due("ball(4) of 223, next", x.ball(4), 1);
        Check.due("undo()", x.undo(), 1);
        Check.due("ball(4) of 123, once more", x.ball(4), 9);
    }

    /** Term 3: "how many (not told if more than 1000)". An odd number each: all but ONE go in pairs with their inverses. */
    static void ballsOfAThousand() {
        HallRegisters x = Check.of("111123", "415:3", "435:3", "436:2", "516:2", "536:2", "546:3");
        Check.due("a BALL of 977", x.ball(4), 977);
        x = Check.of("111112", "216:3");
        Check.due("a BALL of 1015", x.ball(4), -1);
        Check.due("the BALL ahead of it", x.ball(3), 283);
        x = Check.ofKind(3);
        Check.due("a BALL of 1289", x.ball(4), -1);
        Check.due("the BALL ahead of it", x.ball(3), 377);
        Check.due("group", x.group(1, 1), true);
        Check.due("a BALL behind one that is not told", x.ball(4), 9);
    }

    /** Term 3: "SHORT: the least l (0 .. 4) by which one is in it". */
    static void shortToFour() {
        HallRegisters x = new HallRegisters();
        toldDue(x, 3, 0, 0, 0, 0);
        toldDue(x, 3, 1, 0, -1, 0);
        toldDue(x, 3, 2, 1, 1, 0);
        toldDue(x, 3, 2, 1, 1, 1);
        toldDue(x, 3, 3, 1, 2, 1);
        toldDue(x, 3, 4, 0, 0, 1);
        toldDue(x, 3, 4, 0, 0, -1);
        toldDue(x, 3, 4, 2, 2, 4);
        toldDue(x, 3, -1, 2, 2, 5);
        toldDue(x, 3, -1, 0, 0, 2);
        toldDue(x, 3, 4, 4, 0, 0);
        toldDue(x, 3, -1, 5, 0, 0);
        toldDue(x, 3, -1, 999, 999, 999);
    }

    /** Term 3: "(none, if that BALL or a smaller one is not told)". */
    static void shortWithinToldBalls() {
        HallRegisters x = Check.ofKind(3);
        toldDue(x, 3, 3, 1, -1, 0, 0, 0, 1);
        toldDue(x, 3, 3, 0, 0, 0, 0, 0, -3);
        toldDue(x, 3, -1, 1, -1, 0, 0, 1, 1);
        toldDue(x, 3, -1, 4, 0, 0, 0, 0, 0);
        toldDue(x, 3, -1, 0, 0, 0, 0, 0, -4);
        x = Check.of("11111");
        toldDue(x, 3, 4, 1, -1, 0, 1, 1);
        x = Check.of("222");
        toldDue(x, 3, 0, 0, 0, 0);
        toldDue(x, 3, -1, 1, 0, 0);
    }

    // ---- promise 12

    /** Promise 12: "true; false also if there is none, B can't be." */
    static void soughtInVainChangesNothing() {
        HallRegisters x = new HallRegisters();
        Check.setRow(x, 0, 1, 0, 0);
        Check.setRow(x, 1, 1, 0, 4);
        Check.setRow(x, 5, 7, 8, 9);
        String before = Check.state(x);
        int acts = x.look(6);
        Check.due("too far", x.seek(5, 0, 1, 3), false);
        Check.due("none at all", x.seek(5, 0, 2, 3), false);
        Check.due("bound 0", x.seek(5, 0, 0, 0), false);
        Check.due("bound 4", x.seek(5, 0, 0, 4), false);
        for (int no : NO_REGISTERS) {
            Check.due("seek(no, 0, 0, 1)", x.seek(no, 0, 0, 1), false);
            Check.due("seek(5, no, 0, 1)", x.seek(5, no, 0, 1), false);
            Check.due("seek(5, 0, no, 1)", x.seek(5, 0, no, 1), false);
        }
        Check.due("all as before", Check.state(x), before);
        Check.due("ACTS", x.look(6), acts);
        Check.due("OVER", x.look(8), 0);
        Check.due("into one that it is sought for", x.seek(0, 0, 0, 1), true);
        Check.rowDue(x, "into one that it is sought for", 0, "-1 0 0");
        Check.due("not CONSISTENT", Check.notConsistent().seek(0, 0, 0, 1), false);
    }

    // ---- promise 25

    /** Promise 25: "0 LAYER, 1 whether it is CENTRAL (1, 0), 2 whether it is ONE". */
    static void whetherItIsOne() {
        HallRegisters x = new HallRegisters();
        toldDue(x, 2, 1, 0, 0, 0);
        toldDue(x, 2, 0, 0, 0, -1);
        toldDue(x, 2, 0, 1, 0, 0);
        toldDue(x, 0, 1, 1, 0, 0);
        toldDue(x, 1, 0, 1, 0, 0);
    }

    /** Promise 25: "3 SHORT (NONE)". */
    static void shortOrNone() {
        HallRegisters x = new HallRegisters();
        toldDue(x, 3, 4, 0, 4, 0);
        toldDue(x, 3, -1, 0, 5, 0);
    }

    /** Promise 25: "4 the greatest m (1 .. 99) of which it has a ROOT (ONE: 99)". */
    static void greatestRoots() {
        HallRegisters x = new HallRegisters();
        toldDue(x, 4, 99, 0, 0, 0);
        toldDue(x, 4, 99, 0, 0, 99);
        toldDue(x, 4, 99, 990, 0, 0);
        toldDue(x, 4, 98, 0, -98, 0);
        toldDue(x, 4, 50, 0, 0, 100);
        toldDue(x, 4, 1, 0, 101, 0);
        toldDue(x, 4, 1, 1, 999, 999);
        // the ROOT 2 of (100, -62, v) has v / 2 + 775
        toldDue(x, 4, 2, 100, -62, 448);
        toldDue(x, 4, 1, 100, -62, 450);
        toldDue(x, 4, 1, 100, -62, 447);
    }

    /** Promise 25: "5 the REGISTERS that are the same ELEMENT (a set)". */
    static void sameRegisters() {
        HallRegisters x = new HallRegisters();
        Check.due("of ONE", x.register(0, 5), 1023);
        Check.setRow(x, 0, 1, 2, 3);
        Check.due("of the first", x.register(0, 5), 1);
        Check.setRow(x, 9, 1, 2, 3);
        Check.due("of the first and the last", x.register(0, 5), 513);
        Check.due("of the first and the last", x.register(9, 5), 513);
        Check.due("of the others", x.register(5, 5), 510);
        Check.setRow(x, 8, 1, 2, -3);
        Check.due("of another", x.register(8, 5), 256);
        Check.setRow(x, 7, 0, 2, 3);
        Check.setRow(x, 6, 1, 0, 3);
        Check.due("of one with another first EXPONENT", x.register(7, 5), 128);
        Check.due("of one with another second EXPONENT", x.register(6, 5), 64);
        Check.due("of the first and the last", x.register(9, 5), 513);
    }

    /** Promise 25: "6 whether it is MADE (1, 0)". */
    static void madeOrNot() {
        HallRegisters x = Check.ofKind(1);
        toldDue(x, 6, 1, 0, 0, 1, 0, 0);
        toldDue(x, 6, 1, 0, 0, 0, 0, 1);
        toldDue(x, 6, 0, 0, 1, 0, 0, 0);
        Check.due("tail", x.tail(3, 2, 5, 0), true);
        toldDue(x, 6, 0, 0, 0, 0, 0, 1);
        toldDue(x, 6, 1, 0, 0, 1, 1, 0);
        x = Check.of("112", "213:2");
        toldDue(x, 6, 0, 0, 0, 1);
        toldDue(x, 6, 1, 0, 0, 2);
        toldDue(x, 7, 2, 0, 0, 1);
        x = Check.ofKind(1);
        toldDue(x, 6, 0, 2, 0, 0, 0, 0);
        toldDue(x, 6, 1, 0, 0, 7, 0, 0);
    }

    /** Promise 25: "7 the least m (1 .. 99) of which its POWER (without bounds) is MADE (0: none)". */
    static void leastMadePowers() {
        HallRegisters x = new HallRegisters();
        toldDue(x, 7, 1, 0, 0, 0);
        toldDue(x, 7, 1, 0, 0, 5);
        toldDue(x, 7, 0, 0, 1, 5);
        toldDue(x, 7, 0, -1, 0, 0);
        x = Check.of("112", "213:3");
        toldDue(x, 7, 3, 0, 0, 1);
        toldDue(x, 7, 3, 0, 0, -998);
        toldDue(x, 7, 1, 0, 0, -999);
        Check.due("tail", x.tail(2, 1, 3, 0), true);
        toldDue(x, 7, 0, 0, 0, 1);
        toldDue(x, 7, 1, 0, 0, 0);
        // the rows 3 2 0, 0 3 2, 2 0 3 make a lattice of which 35 d is the first
        x = Check.of("111222", "214:3", "215:2", "315:3", "316:2", "324:2", "326:3");
        toldDue(x, 7, 35, 0, 0, 0, 1, 0, 0);
        toldDue(x, 7, 35, 0, 0, 0, 998, 999, 999);
        toldDue(x, 7, 7, 0, 0, 0, 5, 0, 0);
        toldDue(x, 7, 5, 0, 0, 0, 0, 0, 7);
    }

    /** Promise 25: "NONE if there is none such, it is not CONSISTENT, or another what." */
    static void nothingOfNoRegister() {
        HallRegisters x = new HallRegisters();
        HallRegisters not = Check.notConsistent();
        for (int what = 0; what <= 7; what++) {
            Check.due("register(9, " + what + ")", x.register(9, what) >= 0, true);
            for (int no : NO_REGISTERS) {
                Check.due("register(" + no + ", " + what + ")", x.register(no, what), -1);
            }
            Check.due("not CONSISTENT register(0, " + what + ")", not.register(0, what), -1);
        }
        for (int what : new int[] {-1, 8, Integer.MIN_VALUE, Integer.MAX_VALUE}) {
            Check.due("register(0, " + what + ")", x.register(0, what), -1);
        }
    }

    // ---- promises 26, 27, 31

    /** Promise 26: "0 whether they commute (1, 0)". */
    static void whetherTheyCommute() {
        HallRegisters x = new HallRegisters();
        Check.setRow(x, 0, 999, 999, 0);
        Check.setRow(x, 1, -999, -999, 5);
        Check.setRow(x, 2, 999, 998, 0);
        Check.due("both(0, 0, 0)", x.both(0, 0, 0), 1);
        Check.due("both(0, 1, 0)", x.both(0, 1, 0), 1);
        Check.due("both(0, 2, 0)", x.both(0, 2, 0), 0);
        Check.due("both(9, 2, 0), with ONE", x.both(9, 2, 0), 1);
    }

    /** Promise 26: "1 LAYER of their COMMUTATOR". */
    static void layersOfCommutators() {
        HallRegisters x = Check.ofKind(1);
        Check.setRow(x, 0, 1, 0, 0, 0, 0);
        Check.setRow(x, 1, 0, 1, 0, 0, 0);
        Check.setRow(x, 2, 0, 0, 1, 0, 0);
        Check.due("both(0, 1, 1)", x.both(0, 1, 1), 2);
        Check.due("both(0, 2, 1)", x.both(0, 2, 1), 3);
        Check.due("both(0, 0, 1), of ONE", x.both(0, 0, 1), 4);
        Check.setRow(x, 0, 999, 0, 0, 0, 0);
        Check.setRow(x, 1, 0, 999, 0, 0, 0);
        Check.due("both(0, 1, 1), beyond", x.both(0, 1, 1), 2);
        Check.due("both(0, 2, 1)", x.both(0, 2, 1), 3);
        Check.due("OVER", x.look(8), 0);
    }

    /** Promise 26: "2 the first EXPONENT in which they differ (0: none)". */
    static void firstDifferences() {
        HallRegisters x = Check.of("111111");
        Check.due("both(0, 1, 2)", x.both(0, 1, 2), 0);
        for (int i = 6; i >= 1; i--) {
            Check.due("set", x.set(0, i, -i), true);
            Check.due("both(0, 1, 2)", x.both(0, 1, 2), i);
            Check.due("both(1, 0, 2)", x.both(1, 0, 2), i);
            Check.due("both(0, 0, 2)", x.both(0, 0, 2), 0);
        }
    }

    /** Promise 26: "NONE likewise." */
    static void nothingOfNoTwoRegisters() {
        HallRegisters x = new HallRegisters();
        for (int what = 0; what <= 2; what++) {
            Check.due("both(9, 9, " + what + ")", x.both(9, 9, what), new int[] {1, 3, 0}[what]);
            for (int no : NO_REGISTERS) {
                Check.due("both(" + no + ", 0, " + what + ")", x.both(no, 0, what), -1);
                Check.due("both(0, " + no + ", " + what + ")", x.both(0, no, what), -1);
            }
            Check.due("not CONSISTENT both(0, 0, " + what + ")", Check.notConsistent().both(0, 0, what), -1);
        }
        for (int what : new int[] {-1, 3, Integer.MIN_VALUE, Integer.MAX_VALUE}) {
            Check.due("both(0, 0, " + what + ")", x.both(0, 0, what), -1);
        }
    }

    /** Promise 27: "NONE if there are none such, or it is not CONSISTENT". */
    static void noneAlike() {
        HallRegisters x = new HallRegisters();
        Check.due("alike(9, 9)", x.alike(9, 9), 1);
        Check.setRow(x, 0, 31, 0, 0);
        for (int no : NO_REGISTERS) {
            Check.due("alike(" + no + ", 1)", x.alike(no, 1), -1);
            Check.due("alike(1, " + no + ")", x.alike(1, no), -1);
            Check.due("alike(" + no + ", 0), of an EXPONENT of 31", x.alike(no, 0), -1);
            Check.due("alike(0, " + no + "), of an EXPONENT of 31", x.alike(0, no), -1);
        }
        Check.due("not CONSISTENT alike(0, 0)", Check.notConsistent().alike(0, 0), -1);
    }

    /** Promise 27: "NONE - 1 if an EXPONENT of one is not -30 .. 30". */
    static void alikeWithinThirty() {
        HallRegisters x = Check.of("112", "213:1");
        int[] most = {30, -30, 30};
        alikeDue(x, 1, most, most);
        alikeDue(x, 0, most, row(-30, 30, -30));
        for (int i = 0; i < 3; i++) {
            for (int v : new int[] {31, -31, 999, -999}) {
                int[] beyond = most.clone();
                beyond[i] = v;
                alikeDue(x, -2, most, beyond);
                alikeDue(x, -2, beyond, beyond);
            }
        }
        x = Check.of("111111");
        alikeDue(x, -2, row(0, 0, 0, 0, 0, 31), row(0, 0, 0, 0, 0, 31));
        alikeDue(x, 1, row(0, 0, 0, 0, 0, 30), row(0, 0, 0, 0, 0, 30));
        alikeDue(x, 0, row(0, 0, 0, 0, 0, 30), row(0, 0, 0, 0, 0, -30));
    }

    /** Promise 31: "NONE if l can't be, it has more than 1000, or it is not CONSISTENT." */
    static void noBall() {
        HallRegisters x = new HallRegisters();
        for (int l : new int[] {-1, 5, Integer.MIN_VALUE, Integer.MAX_VALUE}) {
            Check.due("ball(" + l + ")", x.ball(l), -1);
        }
        Check.due("more than 1000", Check.ofKind(3).ball(4), -1);
        x = Check.notConsistent();
        for (int l = 0; l <= 4; l++) {
            Check.due("not CONSISTENT ball(" + l + ")", x.ball(l), -1);
        }
    }
}
