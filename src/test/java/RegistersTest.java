/** Promises 5 to 12 and 20: what registers become; what is refused, what is OVER and counted. */
public final class RegistersTest {
    private static final int[] NO_REGISTERS = {-1, 10, Integer.MIN_VALUE, Integer.MAX_VALUE};

    private RegistersTest() {
    }

    public static void main(String[] args) {
        set();
        products();
        powersAndRoots();
        over();
        seek();
        refused();
        notConsistent();
        Check.finish("RegistersTest");
    }

    private static void set() {
        HallRegisters x = new HallRegisters();
        Check.due("set(0, 1, 999)", x.set(0, 1, 999), true);
        Check.due("set(9, 3, -999)", x.set(9, 3, -999), true);
        Check.rowDue(x, "set", 0, "999 0 0");
        Check.rowDue(x, "set", 9, "0 0 -999");
        int[][] cannot = {{0, 1, 1000}, {0, 1, -1000}, {0, 0, 1}, {0, 4, 1}, {0, -1, 1}, {0, 1, Integer.MIN_VALUE},
            {0, Integer.MAX_VALUE, 1}};
        for (int[] c : cannot) {
            Check.due("set(" + c[0] + ", " + c[1] + ", " + c[2] + ")", x.set(c[0], c[1], c[2]), false);
        }
        Check.due("look(6)", x.look(6), 2);
        Check.due("set is never counted as OVER", x.look(8), 0);
        Check.due("exponent(0, 0)", x.exponent(0, 0), -10000);
        Check.due("exponent(0, 4)", x.exponent(0, 4), -10000);
        for (int register : NO_REGISTERS) {
            Check.due("exponent(" + register + ", 1)", x.exponent(register, 1), -10000);
            Check.due("set(" + register + ", 1, 1)", x.set(register, 1, 1), false);
        }
    }

    private static void products() {
        HallRegisters x = new HallRegisters();
        Check.setRow(x, 0, 2, -3, 7);
        Check.setRow(x, 1, 4, 5, -1);
        // exponent 3 of a product: a 3 + b 3 + a 2 b 1
        Check.due("multiply", x.multiply(2, 0, 1), true);
        Check.rowDue(x, "multiply", 2, "6 2 -6");
        Check.due("invert", x.invert(3, 0), true);
        Check.rowDue(x, "invert", 3, "-2 3 -13");
        Check.due("a product with the inverse", x.multiply(4, 0, 3), true);
        Check.rowDue(x, "a product with the inverse", 4, "0 0 0");
        Check.due("commute", x.commute(5, 0, 1), true);
        Check.rowDue(x, "commute", 5, "0 0 -22");
        Check.due("conjugate", x.conjugate(6, 0, 1), true);
        Check.rowDue(x, "conjugate", 6, "2 -3 -15");
        Check.due("multiply itself", x.multiply(0, 0, 0), true);
        Check.rowDue(x, "multiply itself", 0, "4 -6 8");
        Check.due("commute with itself", x.commute(1, 1, 1), true);
        Check.rowDue(x, "commute with itself", 1, "0 0 0");
        x.kind(1);
        Check.due("set", x.set(0, 1, 1), true);
        Check.due("set", x.set(1, 2, 1), true);
        Check.due("commute b, a", x.commute(2, 1, 0), true);
        Check.rowDue(x, "commute b, a", 2, "0 0 1 0 0");
        Check.due("commute a, b", x.commute(2, 0, 1), true);
        Check.rowDue(x, "commute a, b", 2, "0 0 -1 0 0");
    }

    private static void powersAndRoots() {
        HallRegisters x = new HallRegisters();
        Check.setRow(x, 0, 2, 3, 4);
        Check.due("power 0", x.power(1, 0, 0), true);
        Check.rowDue(x, "power 0", 1, "0 0 0");
        Check.due("power 1", x.power(1, 0, 1), true);
        Check.rowDue(x, "power 1", 1, "2 3 4");
        Check.due("power -2", x.power(1, 0, -2), true);
        // 2 times the inverse (-2, -3, 2)
        Check.rowDue(x, "power -2", 1, "-4 -6 10");
        Check.setRow(x, 2, 10, 0, -3);
        Check.due("power 99", x.power(3, 2, 99), true);
        Check.rowDue(x, "power 99", 3, "990 0 -297");
        Check.due("root 99", x.root(4, 3, 99), true);
        Check.rowDue(x, "root 99", 4, "10 0 -3");
        Check.due("power -99", x.power(3, 2, -99), true);
        Check.rowDue(x, "power -99", 3, "-990 0 297");
        Check.due("root 2 of an odd one", x.root(4, 0, 2), false);
        Check.due("root 1", x.root(4, 0, 1), true);
        Check.rowDue(x, "root 1", 4, "2 3 4");
        // (1, 1, v) squared is (2, 2, 2 v + 1)
        Check.setRow(x, 5, 2, 2, 7);
        Check.due("root 2", x.root(6, 5, 2), true);
        Check.rowDue(x, "root 2", 6, "1 1 3");
        Check.setRow(x, 5, 2, 2, 8);
        Check.due("root 2, not of an even one", x.root(6, 5, 2), false);
        // the root would have an exponent of about -500 times 500 / 2
        Check.setRow(x, 5, 998, 998, 1);
        Check.due("a root beyond", x.root(6, 5, 2), false);
        Check.due("a root is never counted as OVER", x.look(8), 0);
    }

    private static void over() {
        HallRegisters x = new HallRegisters();
        Check.setRow(x, 0, 999, 999, 999);
        Check.setRow(x, 1, -998, 1, 0);
        int acts = x.look(6);
        Check.due("multiply over", x.multiply(2, 0, 0), false);
        Check.due("look(8)", x.look(8), 1);
        Check.due("invert over", x.invert(2, 0), false);
        Check.due("look(8)", x.look(8), 2);
        Check.due("power over", x.power(2, 0, 2), false);
        Check.due("look(8)", x.look(8), 3);
        Check.due("commute over", x.commute(2, 0, 1), false);
        Check.due("look(8)", x.look(8), 4);
        Check.due("conjugate over", x.conjugate(2, 0, 1), false);
        Check.due("look(8)", x.look(8), 5);
        Check.due("no act", x.look(6), acts);
        Check.rowDue(x, "OVER changes nothing", 2, "0 0 0");
        Check.setRow(x, 3, 1, 0, 0);
        Check.setRow(x, 4, 0, 999, 0);
        Check.due("999 is not over", x.multiply(5, 4, 3), true);
        Check.rowDue(x, "999 is not over", 5, "1 999 999");
        Check.setRow(x, 4, 0, 999, 1);
        Check.due("1000 is over", x.multiply(5, 4, 3), false);
        Check.due("on the way it may be beyond", x.conjugate(5, 3, 0), true);
        Check.rowDue(x, "on the way it may be beyond", 5, "1 0 -999");
        Check.due("look(8)", x.look(8), 6);
    }

    private static void seek() {
        HallRegisters x = new HallRegisters();
        Check.setRow(x, 0, 1, 2, 0);
        Check.setRow(x, 1, 1, 2, 3);
        // exponent 3 of the conjugate: 2 u 1 - u 2; the lesser u 1 first
        Check.due("seek 1", x.seek(2, 0, 1, 1), true);
        Check.rowDue(x, "seek 1", 2, "1 -1 0");
        Check.due("seek 2", x.seek(2, 0, 1, 2), true);
        Check.rowDue(x, "seek 2", 2, "1 -1 0");
        Check.due("seek 3", x.seek(2, 0, 1, 3), true);
        Check.rowDue(x, "seek 3", 2, "0 -3 0");
        Check.due("seek of itself", x.seek(2, 0, 0, 2), true);
        Check.rowDue(x, "seek of itself", 2, "-1 -2 0");
        Check.setRow(x, 1, 1, 2, 10);
        int acts = x.look(6);
        Check.due("seek too far", x.seek(2, 0, 1, 3), false);
        Check.setRow(x, 1, 2, 2, 0);
        Check.due("seek of what none conjugates", x.seek(2, 0, 1, 3), false);
        Check.due("bound 0", x.seek(2, 0, 0, 0), false);
        Check.due("bound 4", x.seek(2, 0, 0, 4), false);
        Check.due("bound -1", x.seek(2, 0, 0, -1), false);
        Check.due("seeking in vain is no act", Math.min(8, acts + 3), x.look(6));
        Check.rowDue(x, "seeking in vain changes nothing", 2, "-1 -2 0");
        x.kind(3);
        Check.setRow(x, 0, 1, 2, 3, 4, 5, 6);
        Check.due("CLASS 1: seek of itself", x.seek(1, 0, 0, 3), true);
        Check.rowDue(x, "CLASS 1: all of u are 0", 1, "0 0 0 0 0 0");
        Check.due("CLASS 1: seek of another", x.seek(1, 0, 2, 3), false);
        x.kind(1);
        Check.setRow(x, 0, 1, 0, 0, 0, 0);
        Check.setRow(x, 1, 1, 0, 0, 2, 0);
        Check.due("by weight 2", x.seek(2, 0, 1, 2), true);
        Check.rowDue(x, "by weight 2", 2, "-2 0 -2 0 0");
    }

    private static void refused() {
        HallRegisters x = new HallRegisters();
        Check.setRow(x, 0, 999, 999, 999);
        for (int no : NO_REGISTERS) {
            for (int at = 0; at < 3; at++) {
                int r = at == 0 ? no : 1;
                int a = at == 1 ? no : 0;
                int b = at == 2 ? no : 0;
                Check.due("multiply", x.multiply(r, a, b), false);
                Check.due("commute", x.commute(r, a, b), false);
                Check.due("conjugate", x.conjugate(r, a, b), false);
                Check.due("seek", x.seek(r, a, b, 1), false);
                if (at < 2) {
                    Check.due("invert", x.invert(r, a), false);
                    Check.due("power", x.power(r, a, 2), false);
                    Check.due("root", x.root(r, a, 1), false);
                }
            }
        }
        for (int m : new int[] {100, -100, Integer.MIN_VALUE, Integer.MAX_VALUE}) {
            Check.due("power(" + m + ")", x.power(1, 1, m), false);
            Check.due("root(" + m + ")", x.root(1, 1, m), false);
        }
        Check.due("root(0)", x.root(1, 1, 0), false);
        Check.due("root(-1)", x.root(1, 1, -1), false);
        Check.due("only what OVER stops is counted", x.look(8), 0);
        Check.due("look(6)", x.look(6), 3);
    }

    private static void notConsistent() {
        HallRegisters x = new HallRegisters();
        x.kind(2);
        x.tail(4, 2, 6, 0);
        int acts = x.look(6);
        Check.due("set", x.set(0, 1, 1), false);
        Check.due("multiply", x.multiply(0, 0, 0), false);
        Check.due("invert", x.invert(0, 0), false);
        Check.due("power", x.power(0, 0, 1), false);
        Check.due("commute", x.commute(0, 0, 0), false);
        Check.due("conjugate", x.conjugate(0, 0, 0), false);
        Check.due("root", x.root(0, 0, 1), false);
        Check.due("seek", x.seek(0, 0, 0, 1), false);
        Check.due("look(5)", x.look(5), 0);
        Check.due("look(6)", x.look(6), acts);
    }
}
