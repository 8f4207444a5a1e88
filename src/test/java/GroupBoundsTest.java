/** A boundary case of the document each: groups (Term 1, promises 1 to 4, 19, 21, 22). DocTest holds the words to it. */
public final class GroupBoundsTest {
    private static final int[] FAR = {Integer.MIN_VALUE, Integer.MIN_VALUE + 1, Integer.MAX_VALUE};

    private GroupBoundsTest() {
    }

    public static void main(String[] args) {
        Check.runAll(GroupBoundsTest.class);
    }

    private static void groupDue(HallRegisters x, String weights, boolean due) {
        Check.due("group " + weights, x.group(weights.length(), Check.weights(weights)), due);
    }

    // ---- Term 1

    /** Term 1: "n 3 at first; 1 .. 6". */
    static void oneToSixGenerators() {
        HallRegisters x = new HallRegisters();
        Check.due("n at first", x.look(0), 3);
        Check.due("group(0, 0)", x.group(0, 0), false);
        Check.due("group(0, 1)", x.group(0, 1), false);
        Check.due("group(-1, 1)", x.group(-1, 1), false);
        groupDue(x, "1111111", false);
        for (int n : FAR) {
            Check.due("group(" + n + ", 1)", x.group(n, 1), false);
        }
        Check.due("n still", x.look(0), 3);
        groupDue(x, "1", true);
        Check.due("n", x.look(0), 1);
        groupDue(x, "111111", true);
        Check.due("n", x.look(0), 6);
    }

    /** Term 1: "as letters a .. f". */
    static void lettersAToF() {
        HallRegisters x = Check.of("111111");
        Check.collectDue(x, "a", 0, "1 0 0 0 0 0");
        Check.collectDue(x, "f", 0, "0 0 0 0 0 1");
        Check.due("collect `", Check.collect(x, "`"), -1);
        Check.due("collect g", Check.collect(x, "g"), -1);
        Check.due("collect A", Check.collect(x, "A"), -1);
        Check.textDue(x, "af", "1 0 0 0 0 1");
        Check.faultDue(x, "`", 1, 0);
        Check.faultDue(x, "g", 1, 0);
        Check.faultDue(x, "A", 1, 0);
    }

    /** Term 1: "each with a WEIGHT 1 .. 3 (1, 1, 2 at first)". */
    static void weightsOneToThree() {
        HallRegisters x = new HallRegisters();
        Check.due("WEIGHT of 1 at first", x.generator(1, 0), 1);
        Check.due("WEIGHT of 2 at first", x.generator(2, 0), 1);
        Check.due("WEIGHT of 3 at first", x.generator(3, 0), 2);
        groupDue(x, "0", false);
        groupDue(x, "10", false);
        groupDue(x, "01", false);
        groupDue(x, "111110", false);
        Check.due("a WEIGHT of 4", x.group(1, 4), false);
        for (int weight = 1; weight <= 3; weight++) {
            Check.due("group(1, " + weight + ")", x.group(1, weight), true);
            Check.due("WEIGHT of 1", x.generator(1, 0), weight);
        }
        groupDue(x, "333333", true);
        Check.due("WEIGHT of 6", x.generator(6, 0), 3);
    }

    /** Term 1: "never less than that of the one ahead". */
    static void weightsNeverFall() {
        HallRegisters x = new HallRegisters();
        for (int first = 1; first <= 3; first++) {
            for (int second = 1; second <= 3; second++) {
                groupDue(x, "" + first + second, second >= first);
            }
        }
        groupDue(x, "112233", true);
        groupDue(x, "211111", false);
        groupDue(x, "121111", false);
        groupDue(x, "111121", false);
        groupDue(x, "133332", false);
        groupDue(x, "122222", true);
    }

    /** Term 1: "CLASS: the greatest". */
    static void classIsTheGreatestWeight() {
        HallRegisters x = new HallRegisters();
        Check.due("CLASS at first", x.look(1), 2);
        for (String weights : new String[] {"1", "2", "3", "111111", "111112", "111113", "113", "222222"}) {
            groupDue(x, weights, true);
            Check.due("CLASS of " + weights, x.look(1), weights.charAt(weights.length() - 1) - '0');
        }
    }

    /** Term 1: "for j greater than i and k greater than j". */
    static void tailsGoUpwards() {
        HallRegisters x = new HallRegisters();
        for (int j = -1; j <= 4; j++) {
            for (int i = -1; i <= 4; i++) {
                for (int k = -1; k <= 4; k++) {
                    boolean due = j == 2 && i == 1 && k == 3;
                    Check.due("tail(" + j + ", " + i + ", " + k + ", 0)", x.tail(j, i, k, 0), due);
                }
            }
        }
        x = Check.of("122233");
        for (int j = 1; j <= 6; j++) {
            for (int i = 1; i <= 6; i++) {
                for (int k = 1; k <= 6; k++) {
                    Check.due("tail(" + j + ", " + i + ", " + k + ", 0)", x.tail(j, i, k, 0), j > i && k > j);
                }
            }
        }
    }

    /** Term 1: "a number 0 .. 3". */
    static void tailsZeroToThree() {
        HallRegisters x = new HallRegisters();
        for (int v = 3; v >= 0; v--) {
            Check.due("tail(2, 1, 3, " + v + ")", x.tail(2, 1, 3, v), true);
            Check.due("TAIL", x.tailOf(2, 1, 3), v);
            Check.due("tail(2, 1, 3, 4)", x.tail(2, 1, 3, 4), false);
            Check.due("tail(2, 1, 3, -1)", x.tail(2, 1, 3, -1), false);
            Check.due("TAIL still", x.tailOf(2, 1, 3), v);
        }
        for (int v : FAR) {
            Check.due("tail(2, 1, 3, " + v + ")", x.tail(2, 1, 3, v), false);
        }
    }

    /** Term 1: "above 0 just if WEIGHT of k is WEIGHTS of i and j together at least". */
    static void tailsAreHeavyEnough() {
        for (String weights : new String[] {"111223", "112233", "123333"}) {
            HallRegisters x = Check.of(weights);
            for (int j = 2; j <= 6; j++) {
                for (int i = 1; i < j; i++) {
                    for (int k = j + 1; k <= 6; k++) {
                        String tail = "tail(" + j + ", " + i + ", " + k + ", ";
                        boolean due = weights.charAt(k - 1) - '0' >= weights.charAt(i - 1) + weights.charAt(j - 1) - 2 * '0';
                        Check.due(tail + "1) of " + weights, x.tail(j, i, k, 1), due);
                        Check.due(tail + "3) of " + weights, x.tail(j, i, k, 3), due);
                        Check.due(tail + "4) of " + weights, x.tail(j, i, k, 4), false);
                        Check.due("TAIL", x.tailOf(j, i, k), due ? 3 : 0);
                        Check.due(tail + "0) of " + weights, x.tail(j, i, k, 0), true);
                    }
                }
            }
        }
    }

    /** Term 1: "at first 1 for 2, 1, 3; 0 else". */
    static void tailsAtFirst() {
        HallRegisters x = new HallRegisters();
        Check.due("tailOf(2, 1, 3)", x.tailOf(2, 1, 3), 1);
        Check.due("TAILS above 0", x.look(3), 1);
    }

    /** Term 1: "a letter j stands right ahead of a letter i that is less". */
    static void onlyGreaterLettersAreExchanged() {
        HallRegisters x = new HallRegisters();
        Check.collectDue(x, "", 0, "0 0 0 - - -");
        Check.collectDue(x, "c", 0, "0 0 1 - - -");
        Check.collectDue(x, "bb", 0, "0 2 0 - - -");
        Check.collectDue(x, "aabbcc", 0, "2 2 2 - - -");
        Check.collectDue(x, "ba", 1, "1 1 1 - - -");
        Check.collectDue(x, "cb", 1, "0 1 1 - - -");
        Check.collectDue(x, "ca", 1, "1 0 1 - - -");
        Check.collectDue(x, "aaaccb", 2, "3 1 2 - - -");
    }

    /** Term 1: "at the first such place". */
    static void theFirstPlaceFirst() {
        HallRegisters x = Check.notConsistent();
        // c b a: b c e a, b a c d e, a b c d e if e a came last; but b c e a, b c a e f, b a c d e f, a b c d e f
        Check.collectDue(x, "cba", 4, "1 1 1 1 1 1");
    }

    /** Term 1: "for k from j + 1 on as many letters k as the TAIL of j, i, k tells". */
    static void tailsStandInOrder() {
        HallRegisters x = Check.of("112223", "213:3", "215:1", "216:2");
        // one exchange, so the letters of the TAIL stand as they must in the end: a b c c c e f f
        Check.collectDue(x, "ba", 1, "1 1 3 0 1 2");
        x = Check.of("112333", "213:1", "324:3", "326:1");
        Check.collectDue(x, "cb", 1, "0 1 1 3 0 1");
        Check.collectDue(x, "ba", 1, "1 1 1 0 0 0");
    }

    /** Term 1: "In the end it is a row: how many of each letter". */
    static void theEndIsARow() {
        HallRegisters x = new HallRegisters();
        Check.collectDue(x, "cccccccccccccccccccccccc", 0, "0 0 24 - - -");
        Check.collectDue(x, "bbaa", 8, "2 2 4 - - -");
    }

    /** Term 1: "if for all k, j, i (k greater than j, j than i)". */
    static void oneWordThatComesOutOtherwiseIsEnough() {
        for (int k = 3; k <= 4; k++) {
            for (int j = 2; j < k; j++) {
                for (int i = 1; i < j; i++) {
                    // k j i: j k 5 i, and a letter 6 of 5 and i; but k i j brings 5 behind all
                    HallRegisters x = Check.of("111123", "" + k + j + "5:1", "5" + i + "6:1");
                    Check.due("consistent() of " + k + j + i, x.consistent(), 0);
                    Check.due("tail", x.tail(5, i, 6, 0), true);
                    Check.due("consistent() of " + k + j + i + " without the last", x.consistent(), 1);
                }
            }
        }
        Check.due("consistent() of one", Check.of("1").consistent(), 1);
        Check.due("consistent() of two", Check.of("11").consistent(), 1);
        Check.due("consistent() of six", Check.of("333333").consistent(), 1);
    }

    // ---- promises 1 to 4

    /** Promise 1: "Three GENERATORS, two of which have the third as their TAIL." */
    static void aNewObject() {
        HallRegisters x = new HallRegisters();
        long[] look = {3, 2, 1, 1, 7, 0, 0, 0, 0, 4};
        for (int what = 0; what < look.length; what++) {
            Check.due("look(" + what + ")", x.look(what), look[what]);
        }
        Check.due("TAIL", x.tailOf(2, 1, 3), 1);
        Check.collectDue(x, "ba", 1, "1 1 1 - - -");
    }

    /** Promise 2: "digit i of six to the base 4 from the lowest on". */
    static void theFirstDigitIsTheLowest() {
        HallRegisters x = new HallRegisters();
        Check.due("group(3, 57)", x.group(3, 1 + 2 * 4 + 3 * 16), true);
        for (int i = 1; i <= 3; i++) {
            Check.due("WEIGHT of " + i, x.generator(i, 0), i);
        }
        Check.due("group(3, 27), the digits the other way", x.group(3, 3 + 2 * 4 + 16), false);
        Check.due("the most that six digits can tell", x.group(6, 4095), true);
    }

    /** Promise 2: "those beyond n 0". */
    static void digitsBeyondNAreZero() {
        HallRegisters x = new HallRegisters();
        String before = Check.state(x);
        groupDue(x, "1", true);
        Check.due("undo()", x.undo(), 0);
        for (int digit = 1; digit < 6; digit++) {
            for (int v = 1; v <= 3; v++) {
                Check.due("group(1, 1 and digit " + digit + ")", x.group(1, 1 + (v << (2 * digit))), false);
            }
        }
        Check.due("group(5, six digits)", x.group(5, Check.weights("111111")), false);
        Check.due("group(6, a seventh digit)", x.group(6, Check.weights("111111") + 4096), false);
        Check.due("group(6, the highest bit)", x.group(6, Check.weights("111111") + Integer.MIN_VALUE), false);
        Check.due("group(1, a bit beyond all digits)", x.group(1, 1 + (1 << 12)), false);
        Check.due("group(1, -1)", x.group(1, -1), false);
        Check.due("group(6, -1)", x.group(6, -1), false);
        Check.due("group(6, least)", x.group(6, Integer.MIN_VALUE), false);
        Check.due("all as before", Check.state(x), before);
    }

    /** Promise 2: "all TAILS 0: true". */
    static void aGroupBeginsWithoutTails() {
        HallRegisters x = new HallRegisters();
        groupDue(x, "112", true);
        Check.due("TAIL", x.tailOf(2, 1, 3), 0);
        Check.due("tail", x.tail(2, 1, 3, 2), true);
        groupDue(x, "112", true);
        Check.due("TAIL", x.tailOf(2, 1, 3), 0);
        Check.due("kind(2)", x.kind(2), true);
        groupDue(x, "111223", true);
        Check.due("TAILS above 0", x.look(3), 0);
    }

    /** Promise 2: "false if they can't be". */
    static void aRefusedGroupChangesNothing() {
        HallRegisters x = new HallRegisters();
        Check.setRow(x, 4, 1, 2, 3);
        String before = Check.state(x);
        groupDue(x, "1111111", false);
        groupDue(x, "21", false);
        Check.due("group(3, 0)", x.group(3, 0), false);
        Check.due("group(0, 0)", x.group(0, 0), false);
        Check.due("all as before", Check.state(x), before);
        Check.due("ACTS", x.look(6), 3);
    }

    /** Promise 3: "A TAIL: true; false if it can't be." */
    static void aRefusedTailChangesNothing() {
        HallRegisters x = new HallRegisters();
        Check.setRow(x, 4, 1, 2, 3);
        String before = Check.state(x);
        Check.due("tail(2, 1, 3, 4)", x.tail(2, 1, 3, 4), false);
        Check.due("tail(2, 1, 3, -1)", x.tail(2, 1, 3, -1), false);
        Check.due("tail(1, 2, 3, 1)", x.tail(1, 2, 3, 1), false);
        Check.due("tail(2, 1, 4, 1)", x.tail(2, 1, 4, 1), false);
        Check.due("tail(2, 0, 3, 1)", x.tail(2, 0, 3, 1), false);
        Check.due("tail(3, 1, 2, 1)", x.tail(3, 1, 2, 1), false);
        for (int far : FAR) {
            Check.due("tail(far, 1, 3, 1)", x.tail(far, 1, 3, 1), false);
            Check.due("tail(2, far, 3, 1)", x.tail(2, far, 3, 1), false);
            Check.due("tail(2, 1, far, 1)", x.tail(2, 1, far, 1), false);
            Check.due("tail(2, 1, 3, far)", x.tail(2, 1, 3, far), false);
            Check.due("tail(far, far, far, 0)", x.tail(far, far, far, 0), false);
        }
        Check.due("all as before", Check.state(x), before);
        Check.due("ACTS", x.look(6), 3);
        Check.due("tail(2, 1, 3, 1)", x.tail(2, 1, 3, 1), true);
        Check.due("ACTS", x.look(6), 4);
        Check.due("REGISTERS that are not ONE", x.look(5), 0);
    }

    /** Promise 4: "false if there is no such KIND". */
    static void kindsZeroToThree() {
        HallRegisters x = new HallRegisters();
        Check.setRow(x, 4, 1, 2, 3);
        String before = Check.state(x);
        Check.due("kind(-1)", x.kind(-1), false);
        Check.due("kind(4)", x.kind(4), false);
        for (int far : FAR) {
            Check.due("kind(" + far + ")", x.kind(far), false);
        }
        Check.due("all as before", Check.state(x), before);
        Check.due("ACTS", x.look(6), 3);
        for (int kind = 0; kind <= 3; kind++) {
            Check.due("kind(" + kind + ")", x.kind(kind), true);
            Check.due("n of KIND " + kind, x.look(0), new int[] {3, 5, 6, 6}[kind]);
        }
    }

    /** Promise 4: "0 as at first". */
    static void kindZeroIsAsAtFirst() {
        HallRegisters x = new HallRegisters();
        String first = Check.state(x);
        Check.due("kind(1)", x.kind(1), true);
        Check.due("kind(0)", x.kind(0), true);
        Check.due("all as at first", Check.state(x), first);
    }

    private static void kindDue(int kind, String weights, String... tails) {
        HallRegisters x = Check.ofKind(kind);
        String told = Check.state(x);
        Check.due("KIND " + kind, told, Check.state(Check.of(weights, tails)));
        Check.due("TAILS above 0 of KIND " + kind, x.look(3), tails.length);
        Check.due("KIND " + kind + " is CONSISTENT", x.look(2), 1);
    }

    /** Promise 4: "1 five GENERATORS, WEIGHTS 1 1 2 3 3, TAILS 1 of 2, 1, 3; 3, 1, 4; 3, 2, 5". */
    static void kindOne() {
        kindDue(1, "11233", "213:1", "314:1", "325:1");
    }

    /** Promise 4: "2 six, WEIGHTS 1 1 1 2 2 3, TAILS 1 of 3, 1, 4; 3, 2, 5; 4, 2, 6; 5, 1, 6". */
    static void kindTwo() {
        kindDue(2, "111223", "314:1", "325:1", "426:1", "516:1");
    }

    /** Promise 4: "3 six, all of WEIGHT 1". */
    static void kindThree() {
        kindDue(3, "111111");
    }

    // ---- promises 19, 21, 22

    /** Promise 19: "Whether the GROUP is CONSISTENT (1, 0)." */
    static void consistentOrNot() {
        HallRegisters x = Check.ofKind(2);
        Check.due("consistent()", x.consistent(), 1);
        Check.due("tail", x.tail(4, 2, 6, 0), true);
        Check.due("consistent()", x.consistent(), 0);
        Check.due("tail", x.tail(5, 1, 6, 0), true);
        Check.due("consistent()", x.consistent(), 1);
        Check.due("tail", x.tail(5, 1, 6, 2), true);
        Check.due("consistent()", x.consistent(), 0);
        Check.due("tail", x.tail(4, 2, 6, 2), true);
        Check.due("consistent()", x.consistent(), 1);
        Check.due("tail", x.tail(4, 2, 6, 1), true);
        Check.due("consistent()", x.consistent(), 0);
        Check.due("undo()", x.undo(), 5);
        Check.due("consistent()", x.consistent(), 1);
    }

    /** Promise 21: "1 whether it is CENTRAL (1, 0; NONE if not CONSISTENT)". */
    static void centralGenerators() {
        // b and c alone don't commute
        HallRegisters x = Check.of("1123", "324:3");
        int[] due = {1, 0, 0, 1};
        for (int i = 1; i <= 4; i++) {
            Check.due("generator(" + i + ", 1)", x.generator(i, 1), due[i - 1]);
        }
        x = Check.notConsistent();
        for (int i = 1; i <= 6; i++) {
            Check.due("not CONSISTENT generator(" + i + ", 1)", x.generator(i, 1), -1);
            Check.due("not CONSISTENT generator(" + i + ", 0)", x.generator(i, 0), "111223".charAt(i - 1) - '0');
        }
    }

    /** Promise 21: "NONE if there is none such, or another what." */
    static void noSuchGenerator() {
        HallRegisters x = new HallRegisters();
        Check.due("generator(3, 0)", x.generator(3, 0), 2);
        for (int what = 0; what <= 1; what++) {
            Check.due("generator(0, " + what + ")", x.generator(0, what), -1);
            Check.due("generator(4, " + what + ")", x.generator(4, what), -1);
            Check.due("generator(-1, " + what + ")", x.generator(-1, what), -1);
            for (int far : FAR) {
                Check.due("generator(" + far + ", " + what + ")", x.generator(far, what), -1);
            }
        }
        for (int what : new int[] {-1, 2, Integer.MIN_VALUE, Integer.MAX_VALUE}) {
            Check.due("generator(1, " + what + ")", x.generator(1, what), -1);
        }
        x = Check.of("111111");
        Check.due("generator(6, 0)", x.generator(6, 0), 1);
        Check.due("generator(7, 0)", x.generator(7, 0), -1);
    }

    /** Promise 22: "NONE if there is none such (j greater than i, k greater than j, all 1 .. n)." */
    static void noSuchTail() {
        HallRegisters x = new HallRegisters();
        for (int j = -1; j <= 4; j++) {
            for (int i = -1; i <= 4; i++) {
                for (int k = -1; k <= 4; k++) {
                    int due = j == 2 && i == 1 && k == 3 ? 1 : -1;
                    Check.due("tailOf(" + j + ", " + i + ", " + k + ")", x.tailOf(j, i, k), due);
                }
            }
        }
        for (int far : FAR) {
            Check.due("tailOf(far, 1, 3)", x.tailOf(far, 1, 3), -1);
            Check.due("tailOf(2, far, 3)", x.tailOf(2, far, 3), -1);
            Check.due("tailOf(2, 1, far)", x.tailOf(2, 1, far), -1);
            Check.due("tailOf(far, far, far)", x.tailOf(far, far, far), -1);
        }
        x = Check.of("111223", "546:0", "516:2");
        Check.due("tailOf(5, 4, 6)", x.tailOf(5, 4, 6), 0);
        Check.due("tailOf(5, 1, 6)", x.tailOf(5, 1, 6), 2);
        Check.due("tailOf(6, 5, 7)", x.tailOf(6, 5, 7), -1);
        Check.due("tailOf(5, 6, 7)", x.tailOf(5, 6, 7), -1);
        Check.due("tailOf(1, 0, 2)", x.tailOf(1, 0, 2), -1);
    }
}
