/** Promises 1 to 4, 19, 21, 22 and what look() tells of the group: its making, its edges, what can't be. */
public final class GroupTest {
    private GroupTest() {
    }

    public static void main(String[] args) {
        newObject();
        group();
        tail();
        kinds();
        consistent();
        generators();
        Check.finish("GroupTest");
    }

    private static void newObject() {
        HallRegisters x = new HallRegisters();
        Check.due("NONE", HallRegisters.NONE, -1);
        long[] look = {3, 2, 1, 1, 7, 0, 0, 0, 0, 4};
        for (int what = 0; what < look.length; what++) {
            Check.due("new look(" + what + ")", x.look(what), look[what]);
        }
        Check.due("look(10)", x.look(10), -1);
        Check.due("look(-1)", x.look(-1), -1);
        Check.due("tailOf(2, 1, 3)", x.tailOf(2, 1, 3), 1);
        for (int register = 0; register < 10; register++) {
            Check.rowDue(x, "new register " + register, register, "0 0 0");
        }
        Check.due("fault(0)", x.fault(0), 0);
        Check.due("fault(1)", x.fault(1), -1);
        Check.due("collected(1)", x.collected(1), -1);
        Check.due("undo()", x.undo(), -1);
        Check.due("image(false)", x.image(false), false);
    }

    private static void group() {
        HallRegisters x = new HallRegisters();
        int[][] cannot = {{0, 0}, {-1, 1}, {7, 5461}, {1, 0}, {1, 4}, {1, 5}, {2, 1}, {2, 4}, {2, 6}, {2, 21}, {2, -1},
            {6, 5461}, {6, 4096}, {6, Integer.MIN_VALUE}, {Integer.MAX_VALUE, 5}, {3, 13}, {2, 5 + 4096}, {6, 3 * 341}};
        for (int[] call : cannot) {
            Check.due("group(" + call[0] + ", " + call[1] + ")", x.group(call[0], call[1]), false);
        }
        Check.due("look(6) after what can't be", x.look(6), 0);
        Check.due("look(3) after what can't be", x.look(3), 1);
        for (int weight = 1; weight <= 3; weight++) {
            Check.due("group(1, " + weight + ")", x.group(1, weight), true);
            Check.due("look(0)", x.look(0), 1);
            Check.due("look(1)", x.look(1), weight);
            Check.due("look(3)", x.look(3), 0);
            Check.due("look(4)", x.look(4), 2);
        }
        Check.due("group(6, 4095)", x.group(6, 4095), true);
        Check.due("generator(6, 0)", x.generator(6, 0), 3);
        Check.due("group(3, 57)", x.group(3, 1 + 4 * 2 + 16 * 3), true);
        for (int i = 1; i <= 3; i++) {
            Check.due("generator(" + i + ", 0)", x.generator(i, 0), i);
        }
        Check.due("set", x.set(4, 1, 5), true);
        Check.due("group(3, 57) again", x.group(3, 57), true);
        Check.rowDue(x, "group() makes registers ONE", 4, "0 0 0");
        Check.due("tail(2, 1, 3, 2)", x.tail(2, 1, 3, 2), true);
        Check.due("group(3, 57) again", x.group(3, 57), true);
        Check.due("tails are 0", x.tailOf(2, 1, 3), 0);
    }

    private static void tail() {
        HallRegisters x = new HallRegisters();
        Check.due("kind(2)", x.kind(2), true);
        Check.due("set", x.set(0, 1, 5), true);
        int acts = x.look(6);
        int[][] cannot = {{1, 3, 4, 1}, {3, 3, 4, 1}, {3, 1, 3, 1}, {3, 1, 2, 1}, {3, 0, 4, 1}, {3, 1, 7, 1}, {7, 1, 8, 0},
            {3, 1, 4, 4}, {3, 1, 4, -1}, {2, 1, 3, 1}, {5, 4, 6, 1}, {-1, -2, 4, 0}, {3, Integer.MIN_VALUE, 4, 0},
            {3, 1, Integer.MAX_VALUE, 0}, {0, 1, 2, 0}};
        for (int[] c : cannot) {
            Check.due("tail(" + c[0] + ", " + c[1] + ", " + c[2] + ", " + c[3] + ")", x.tail(c[0], c[1], c[2], c[3]), false);
        }
        Check.due("no act", x.look(6), acts);
        Check.due("a register is as it was", x.exponent(0, 1), 5);
        Check.due("tail(2, 1, 3, 0)", x.tail(2, 1, 3, 0), true);
        Check.due("an act", x.look(6), acts + 1);
        Check.due("registers are ONE", x.exponent(0, 1), 0);
        Check.due("tail(5, 4, 6, 0)", x.tail(5, 4, 6, 0), true);
        Check.due("a tail of more weight: tail(2, 1, 6, 3)", x.tail(2, 1, 6, 3), true);
        Check.due("tailOf(2, 1, 6)", x.tailOf(2, 1, 6), 3);
        Check.due("tail(5, 1, 6, 3)", x.tail(5, 1, 6, 3), true);
        Check.due("look(3)", x.look(3), 5);
        Check.due("tailOf(5, 1, 6)", x.tailOf(5, 1, 6), 3);
        int[][] none = {{1, 3, 4}, {3, 3, 4}, {3, 1, 3}, {3, 1, 2}, {3, 0, 4}, {3, 1, 7}, {7, 1, 8}, {-1, -2, 4},
            {Integer.MAX_VALUE, 1, Integer.MAX_VALUE}};
        for (int[] c : none) {
            Check.due("tailOf(" + c[0] + ", " + c[1] + ", " + c[2] + ")", x.tailOf(c[0], c[1], c[2]), -1);
        }
        Check.due("tailOf(2, 1, 3)", x.tailOf(2, 1, 3), 0);
    }

    private static void kinds() {
        HallRegisters x = new HallRegisters();
        Check.due("kind(-1)", x.kind(-1), false);
        Check.due("kind(4)", x.kind(4), false);
        Check.due("kind(huge)", x.kind(Integer.MAX_VALUE), false);
        Check.due("look(6)", x.look(6), 0);
        String[] weights = {"112", "11233", "111223", "111111"};
        int[] classes = {2, 3, 3, 1};
        int[][][] tails = {{{2, 1, 3}}, {{2, 1, 3}, {3, 1, 4}, {3, 2, 5}}, {{3, 1, 4}, {3, 2, 5}, {4, 2, 6}, {5, 1, 6}}, {}};
        int[] central = {4, 24, 32, 63};
        int[] terms = {7, 16, 17, 12};
        for (int kind = 3; kind >= 0; kind--) {
            x.set(2, 1, 9);
            Check.due("kind(" + kind + ")", x.kind(kind), true);
            Check.due("registers are ONE", x.look(5), 0);
            Check.due("look(0)", x.look(0), weights[kind].length());
            Check.due("look(1)", x.look(1), classes[kind]);
            Check.due("look(2)", x.look(2), 1);
            Check.due("look(3)", x.look(3), tails[kind].length);
            Check.due("look(4)", x.look(4), terms[kind]);
            Check.due("look(9)", x.look(9), central[kind]);
            for (int i = 1; i <= weights[kind].length(); i++) {
                Check.due("kind " + kind + " generator(" + i + ", 0)", x.generator(i, 0), weights[kind].charAt(i - 1) - '0');
                Check.due("kind " + kind + " generator(" + i + ", 1)", x.generator(i, 1), central[kind] >> (i - 1) & 1);
            }
            for (int[] t : tails[kind]) {
                Check.due("kind " + kind + " tail", x.tailOf(t[0], t[1], t[2]), 1);
            }
        }
    }

    private static void consistent() {
        HallRegisters x = new HallRegisters();
        Check.due("consistent()", x.consistent(), 1);
        x.kind(2);
        // c b a: with 4 2 6 alone missing, one way around brings one letter f less.
        Check.due("tail(4, 2, 6, 0)", x.tail(4, 2, 6, 0), true);
        Check.due("consistent()", x.consistent(), 0);
        Check.due("tail(5, 1, 6, 0)", x.tail(5, 1, 6, 0), true);
        Check.due("consistent()", x.consistent(), 1);
        Check.due("tail(4, 2, 6, 2)", x.tail(4, 2, 6, 2), true);
        Check.due("tail(5, 1, 6, 1)", x.tail(5, 1, 6, 1), true);
        Check.due("consistent()", x.consistent(), 0);
        Check.due("tail(3, 2, 5, 2)", x.tail(3, 2, 5, 2), true);
        Check.due("consistent()", x.consistent(), 1);
        Check.due("look(2)", x.look(2), 1);
    }

    private static void generators() {
        HallRegisters x = new HallRegisters();
        for (int i : new int[] {0, 4, -1, Integer.MIN_VALUE, Integer.MAX_VALUE}) {
            Check.due("generator(" + i + ", 0)", x.generator(i, 0), -1);
        }
        Check.due("generator(1, 2)", x.generator(1, 2), -1);
        Check.due("generator(1, -1)", x.generator(1, -1), -1);
        Check.due("generator(2, 1)", x.generator(2, 1), 0);
        Check.due("generator(3, 1)", x.generator(3, 1), 1);
        x.kind(2);
        x.tail(4, 2, 6, 0);
        Check.due("not consistent generator(6, 1)", x.generator(6, 1), -1);
        Check.due("not consistent generator(6, 0)", x.generator(6, 0), 3);
        Check.due("not consistent look(9)", x.look(9), 0);
        Check.due("not consistent look(4)", x.look(4), 0);
        Check.due("not consistent look(2)", x.look(2), 0);
        Check.due("not consistent look(3)", x.look(3), 3);
    }
}
