/** Promises 23, 24 and 28: the terms of polynomials, and their shape. */
public final class PolynomialsTest {
    private PolynomialsTest() {
    }

    public static void main(String[] args) {
        first();
        kindOne();
        abelian();
        weighted();
        none();
        Check.finish("PolynomialsTest");
    }

    /** Each term as its number and its rows, "number:d 1 .. d n e 1 .. e n". */
    private static void termsDue(HallRegisters x, int k, String... terms) {
        int n = x.look(0);
        Check.due("terms(" + k + ")", x.terms(k), terms.length);
        for (int t = 0; t < terms.length; t++) {
            int colon = terms[t].indexOf(':');
            Check.due("term(" + k + ", " + t + ", 0)", x.term(k, t, 0), Integer.parseInt(terms[t].substring(0, colon)));
            for (int what = 1; what <= 2 * n; what++) {
                Check.due("term(" + k + ", " + t + ", " + what + ")", x.term(k, t, what), terms[t].charAt(colon + what) - '0');
            }
            Check.due("term(" + k + ", " + t + ", 2 n + 1)", x.term(k, t, 2 * n + 1), -10000);
        }
        Check.due("term behind the last", x.term(k, terms.length, 0), -10000);
    }

    private static void shapeDue(HallRegisters x, int k, int... shape) {
        for (int what = 0; what < 4; what++) {
            Check.due("shape(" + k + ", " + what + ")", x.shape(k, what), shape[what]);
        }
    }

    private static void first() {
        HallRegisters x = new HallRegisters();
        termsDue(x, 1, "1:000100", "1:100000");
        termsDue(x, 2, "1:000010", "1:010000");
        termsDue(x, 3, "1:000001", "1:001000", "1:010100");
        shapeDue(x, 1, 1, 1, 0, 2);
        shapeDue(x, 3, 2, 2, 0, 3);
        x.tail(2, 1, 3, 3);
        termsDue(x, 3, "1:000001", "1:001000", "3:010100");
        shapeDue(x, 3, 2, 2, 0, 5);
        x.tail(2, 1, 3, 0);
        termsDue(x, 3, "1:000001", "1:001000");
        shapeDue(x, 3, 1, 2, 0, 2);
    }

    private static void kindOne() {
        HallRegisters x = new HallRegisters();
        x.kind(1);
        // letters c come of b and a, letters d of c and a (two letters a behind a b too), letters e of c and b
        termsDue(x, 3, "1:0000000100", "1:0010000000", "1:0100010000");
        termsDue(x, 4, "1:0000000010", "1:0001000000", "1:0010010000", "1:0100020000");
        termsDue(x, 5, "1:0000000001", "1:0000100000", "1:0010001000", "1:0100011000", "1:0200010000");
        shapeDue(x, 4, 3, 3, 0, 4);
        shapeDue(x, 5, 3, 3, 1, 5);
    }

    private static void abelian() {
        HallRegisters x = new HallRegisters();
        x.kind(3);
        for (int k = 1; k <= 6; k++) {
            char[] rows = "000000000000".toCharArray();
            rows[5 + k] = '1';
            String right = "1:" + new String(rows);
            rows[5 + k] = '0';
            rows[k - 1] = '1';
            termsDue(x, k, right, "1:" + new String(rows));
            shapeDue(x, k, 1, 1, 0, 2);
        }
    }

    private static void weighted() {
        HallRegisters x = new HallRegisters();
        x.group(3, 1 + 4 + 48);
        x.tail(2, 1, 3, 2);
        termsDue(x, 3, "1:000001", "1:001000", "2:010100");
        shapeDue(x, 3, 2, 3, 0, 4);
        x.group(2, 2 + 12);
        termsDue(x, 1, "1:0010", "1:1000");
        shapeDue(x, 1, 1, 2, 0, 2);
        shapeDue(x, 2, 1, 3, 0, 2);
    }

    private static void none() {
        HallRegisters x = new HallRegisters();
        for (int k : new int[] {0, 4, -1, Integer.MIN_VALUE, Integer.MAX_VALUE}) {
            Check.due("terms(" + k + ")", x.terms(k), -1);
            Check.due("term(" + k + ", 0, 0)", x.term(k, 0, 0), -10000);
            Check.due("shape(" + k + ", 0)", x.shape(k, 0), -10000);
        }
        for (int bad : new int[] {-1, 7, Integer.MIN_VALUE, Integer.MAX_VALUE}) {
            Check.due("term(1, 0, " + bad + ")", x.term(1, 0, bad), -10000);
            Check.due("term(1, " + bad + ", 0)", x.term(1, bad, 0), -10000);
            Check.due("shape(1, " + bad + ")", x.shape(1, bad), -10000);
        }
        Check.due("shape(1, 4)", x.shape(1, 4), -10000);
        x.kind(2);
        x.tail(4, 2, 6, 0);
        Check.due("not consistent terms(1)", x.terms(1), -1);
        Check.due("not consistent term(1, 0, 0)", x.term(1, 0, 0), -10000);
        Check.due("not consistent shape(1, 3)", x.shape(1, 3), -10000);
    }
}
