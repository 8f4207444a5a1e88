/** Promises 25 to 27 and 29 to 31: what is told of registers, and of short words. */
public final class ToldTest {
    private ToldTest() {
    }

    public static void main(String[] args) {
        layersAndCentral();
        shortWords();
        roots();
        made();
        both();
        alike();
        alikeByWeights();
        powers();
        balls();
        none();
        notConsistent();
        Check.finish("ToldTest");
    }

    private static void toldDue(HallRegisters x, int register, int what, int want) {
        Check.due("register(" + register + ", " + what + ") of " + Check.row(x, register), x.register(register, what), want);
    }

    private static void layersAndCentral() {
        HallRegisters x = new HallRegisters();
        x.kind(1);
        toldDue(x, 0, 0, 4);
        toldDue(x, 0, 1, 1);
        toldDue(x, 0, 2, 1);
        toldDue(x, 0, 5, 1023);
        Check.setRow(x, 1, 0, 0, 0, 0, -2);
        toldDue(x, 1, 0, 3);
        toldDue(x, 1, 1, 1);
        toldDue(x, 1, 2, 0);
        Check.setRow(x, 2, 0, 0, 5, 0, -2);
        toldDue(x, 2, 0, 2);
        toldDue(x, 2, 1, 0);
        Check.setRow(x, 3, 0, -1, 0, 0, 0);
        toldDue(x, 3, 0, 1);
        toldDue(x, 3, 1, 0);
        Check.setRow(x, 9, 0, 0, 5, 0, -2);
        toldDue(x, 9, 5, 516);
        toldDue(x, 2, 5, 516);
        toldDue(x, 3, 5, 8);
        Check.setRow(x, 4, 1, -1, 0, 0, 0);
        toldDue(x, 3, 5, 8);
        Check.due("look(5)", x.look(5), 542);
    }

    private static void shortWords() {
        HallRegisters x = new HallRegisters();
        toldDue(x, 0, 3, 0);
        Check.setRow(x, 1, 0, 0, 1);
        toldDue(x, 1, 3, 4);
        Check.setRow(x, 1, 0, 0, 2);
        toldDue(x, 1, 3, -1);
        Check.setRow(x, 1, -1, 0, 0);
        toldDue(x, 1, 3, 1);
        Check.setRow(x, 1, 2, 2, 4);
        toldDue(x, 1, 3, 4);
        Check.setRow(x, 1, 2, 2, 5);
        toldDue(x, 1, 3, -1);
        Check.setRow(x, 1, 0, 5, 0);
        toldDue(x, 1, 3, -1);
        x.kind(3);
        Check.setRow(x, 1, 1, 0, -1, 0, 0, 1);
        toldDue(x, 1, 3, 3);
        Check.setRow(x, 1, 1, 0, -1, 1, 0, 1);
        toldDue(x, 1, 3, -1);
        toldDue(x, 0, 3, 0);
        x.group(2, 10);
        toldDue(x, 0, 3, 0);
        Check.setRow(x, 1, 1, 0);
        toldDue(x, 1, 3, -1);
    }

    private static void roots() {
        HallRegisters x = new HallRegisters();
        toldDue(x, 0, 4, 99);
        Check.setRow(x, 1, 0, 0, 990);
        toldDue(x, 1, 4, 99);
        Check.setRow(x, 1, 0, 0, 991);
        toldDue(x, 1, 4, 1);
        Check.setRow(x, 1, 6, 12, 36);
        // the sixth power of (1, 2, v) is (6, 12, 6 v + 30)
        toldDue(x, 1, 4, 6);
        Check.setRow(x, 1, 6, 12, 33);
        toldDue(x, 1, 4, 3);
        Check.setRow(x, 1, 998, 998, 1);
        toldDue(x, 1, 4, 1);
    }

    private static void made() {
        HallRegisters x = new HallRegisters();
        toldDue(x, 0, 6, 1);
        toldDue(x, 0, 7, 1);
        x.group(4, 1 + 4 + 32 + 128);
        x.tail(2, 1, 3, 2);
        x.tail(2, 1, 4, 3);
        Check.setRow(x, 1, 0, 0, -4, -6);
        toldDue(x, 1, 6, 1);
        toldDue(x, 1, 7, 1);
        Check.setRow(x, 1, 0, 0, 2, 6);
        toldDue(x, 1, 6, 0);
        toldDue(x, 1, 7, 0);
        Check.setRow(x, 1, 0, 1, 2, 3);
        toldDue(x, 1, 6, 0);
        toldDue(x, 1, 7, 0);
        x.group(3, 37);
        x.tail(2, 1, 3, 2);
        Check.setRow(x, 1, 0, 0, 1);
        toldDue(x, 1, 6, 0);
        toldDue(x, 1, 7, 2);
        Check.setRow(x, 1, 0, 0, 998);
        toldDue(x, 1, 6, 1);
        x.tail(2, 1, 3, 0);
        Check.setRow(x, 1, 0, 0, 1);
        toldDue(x, 1, 7, 0);
        // of steps: c by a makes d, so that c's tail 2 makes d's 3 of the next step
        x.group(4, 1 + 4 + 32 + 192);
        x.tail(2, 1, 3, 2);
        x.tail(3, 1, 4, 3);
        Check.setRow(x, 1, 0, 0, 1, 1);
        toldDue(x, 1, 6, 0);
        toldDue(x, 1, 7, 6);
        Check.setRow(x, 1, 0, 0, 2, 1);
        toldDue(x, 1, 7, 3);
        Check.setRow(x, 1, 0, 0, 2, 3);
        toldDue(x, 1, 7, 1);
    }

    private static void both() {
        HallRegisters x = new HallRegisters();
        x.kind(1);
        Check.setRow(x, 0, 1, 0, 0, 0, 0);
        Check.setRow(x, 1, 0, 0, 1, 0, 0);
        Check.setRow(x, 2, 0, 0, 1, 0, 9);
        Check.setRow(x, 3, 0, 1, 0, 0, 0);
        Check.due("both(0, 1, 0)", x.both(0, 1, 0), 0);
        Check.due("both(1, 2, 0)", x.both(1, 2, 0), 1);
        Check.due("both(0, 1, 1)", x.both(0, 1, 1), 3);
        Check.due("both(0, 3, 1)", x.both(0, 3, 1), 2);
        Check.due("both(1, 2, 1)", x.both(1, 2, 1), 4);
        Check.due("both(0, 1, 2)", x.both(0, 1, 2), 1);
        Check.due("both(1, 2, 2)", x.both(1, 2, 2), 5);
        Check.due("both(1, 1, 2)", x.both(1, 1, 2), 0);
        Check.setRow(x, 0, 999, 0, 0, 0, 0);
        Check.setRow(x, 3, 0, 999, 0, 0, 0);
        Check.due("of a COMMUTATOR beyond: both(0, 3, 1)", x.both(0, 3, 1), 2);
        Check.due("look(8)", x.look(8), 0);
        Check.due("associates, beyond on the way", x.associates(3, 0, 3), 1);
    }

    private static void alikeDue(HallRegisters x, int want) {
        Check.due("alike of " + Check.row(x, 0) + " and " + Check.row(x, 1), x.alike(0, 1), want);
    }

    private static void alike() {
        HallRegisters x = new HallRegisters();
        Check.setRow(x, 0, 30, 20, -30);
        Check.setRow(x, 1, 30, 20, 30);
        alikeDue(x, 1);
        Check.setRow(x, 1, 30, 20, 29);
        alikeDue(x, 0);
        Check.setRow(x, 1, 30, -20, 30);
        alikeDue(x, 0);
        Check.setRow(x, 1, 30, 20, -31);
        alikeDue(x, -2);
        Check.setRow(x, 1, 31, 20, -30);
        alikeDue(x, -2);
        Check.due("alike(1, 0)", x.alike(1, 0), -2);
        Check.setRow(x, 1, 30, 20, -30);
        alikeDue(x, 1);
        Check.setRow(x, 1, 29, 20, -30);
        alikeDue(x, 0);
        x.kind(3);
        Check.setRow(x, 0, 1, 2, 3, 4, 5, 6);
        Check.setRow(x, 1, 2, 2, 3, 4, 5, 6);
        alikeDue(x, 0);
        Check.setRow(x, 1, 1, 2, 3, 4, 5, 6);
        alikeDue(x, 1);
        Check.setRow(x, 1, 1, 2, 3, 4, 5, 7);
        alikeDue(x, 0);
    }

    private static void alikeByWeights() {
        HallRegisters x = new HallRegisters();
        x.kind(1);
        Check.setRow(x, 0, 1, 0, 0, 0, 0);
        // Conjugating by letters b alone moves c, and that moves e by just one number; d is free by c.
        for (int c = -4; c <= 4; c++) {
            x = new HallRegisters();
            x.kind(1);
            Check.setRow(x, 0, 1, 0, 0, 0, 0);
            int found = 0;
            for (int e = -20; e <= 20; e++) {
                Check.setRow(x, 1, 1, 0, c, 5, e);
                found += x.alike(0, 1);
            }
            Check.due("alike ones by e", found, 1);
        }
        Check.setRow(x, 1, 1, 0, 0, -30, 0);
        alikeDue(x, 1);
        Check.setRow(x, 1, 1, 0, 0, -30, 1);
        alikeDue(x, 0);
        Check.setRow(x, 0, 0, 0, 2, 0, 0);
        Check.setRow(x, 1, 0, 0, 2, 4, -6);
        alikeDue(x, 1);
        Check.setRow(x, 1, 0, 0, 2, 4, -5);
        alikeDue(x, 0);
        Check.setRow(x, 1, 0, 0, 3, 4, -6);
        alikeDue(x, 0);
        // weight 1 alone moves weight 3 here
        x.group(3, 1 + 4 + 48);
        x.tail(2, 1, 3, 2);
        Check.setRow(x, 0, 3, 6, 0);
        Check.setRow(x, 1, 3, 6, 18);
        alikeDue(x, 1);
        Check.setRow(x, 1, 3, 6, 21);
        alikeDue(x, 0);
    }

    private static void powers() {
        HallRegisters x = new HallRegisters();
        x.kind(1);
        Check.setRow(x, 0, 999, 999, 999, 999, 999);
        for (int k = 1; k <= 5; k++) {
            Check.due("powers(0, " + k + ", 0)", x.powers(0, k, 0), 0);
            Check.due("powers(0, " + k + ", 1)", x.powers(0, k, 1), 999);
        }
        Check.due("powers(0, 1, 2)", x.powers(0, 1, 2), 0);
        Check.due("powers(0, 3, 2)", x.powers(0, 3, 2), 998001);
        Check.due("powers(0, 3, 3)", x.powers(0, 3, 3), 0);
        // d: a 3 b 1 + a 2 (b 1 over 2), then once more with c's 998001
        Check.due("powers(0, 4, 2)", x.powers(0, 4, 2), 998001L + 999L * (999L * 998 / 2));
        Check.due("powers(0, 4, 3)", x.powers(0, 4, 3), 998001L * 999);
        for (int bad : new int[] {-1, 4, 6, Integer.MIN_VALUE, Integer.MAX_VALUE}) {
            Check.due("powers(0, 1, " + bad + ")", x.powers(0, 1, bad), -100000000000000L);
        }
        for (int bad : new int[] {-1, 0, 6, Integer.MIN_VALUE, Integer.MAX_VALUE}) {
            Check.due("powers(0, " + bad + ", 1)", x.powers(0, bad, 1), -100000000000000L);
        }
    }

    private static void balls() {
        HallRegisters x = new HallRegisters();
        int[] sizes = {1, 5, 17, 53, 135};
        for (int l = 0; l < 4; l++) {
            Check.due("ball(" + l + ")", x.ball(l), sizes[l]);
        }
        x.kind(3);
        int[] abelian = {1, 13, 85, 377, -1};
        for (int l = 4; l >= 0; l--) {
            Check.due("kind 3 ball(" + l + ")", x.ball(l), abelian[l]);
        }
        x.group(1, 1);
        Check.due("one generator's ball(4)", x.ball(4), 9);
        x.group(5, 341);
        Check.due("five generators' ball(4)", x.ball(4), 681);
        x.group(3, 42);
        Check.due("no generator's ball(4)", x.ball(4), 1);
        for (int l : new int[] {-1, 5, Integer.MIN_VALUE, Integer.MAX_VALUE}) {
            Check.due("ball(" + l + ")", x.ball(l), -1);
        }
        x.undo();
        Check.due("ball(4) of the group ahead", x.ball(4), 681);
    }

    private static void none() {
        HallRegisters x = new HallRegisters();
        for (int no : new int[] {-1, 10, Integer.MIN_VALUE, Integer.MAX_VALUE}) {
            for (int what = 0; what < 8; what++) {
                Check.due("register(" + no + ", " + what + ")", x.register(no, what), -1);
            }
            Check.due("register(0, " + (no == 10 ? 8 : no) + ")", x.register(0, no == 10 ? 8 : no), -1);
            Check.due("both(0, 0, " + (no == 10 ? 3 : no) + ")", x.both(0, 0, no == 10 ? 3 : no), -1);
            Check.due("both(no, 0, 0)", x.both(no, 0, 0), -1);
            Check.due("both(0, no, 2)", x.both(0, no, 2), -1);
            Check.due("alike(no, 0)", x.alike(no, 0), -1);
            Check.due("alike(0, no)", x.alike(0, no), -1);
            Check.due("powers(no, 1, 1)", x.powers(no, 1, 1), -100000000000000L);
            Check.due("associates(no, 0, 0)", x.associates(no, 0, 0), -1);
            Check.due("associates(0, no, 0)", x.associates(0, no, 0), -1);
            Check.due("associates(0, 0, no)", x.associates(0, 0, no), -1);
        }
    }

    private static void notConsistent() {
        HallRegisters x = new HallRegisters();
        x.kind(2);
        x.tail(4, 2, 6, 0);
        for (int what = 0; what < 8; what++) {
            Check.due("register(0, " + what + ")", x.register(0, what), -1);
        }
        for (int what = 0; what < 3; what++) {
            Check.due("both(0, 0, " + what + ")", x.both(0, 0, what), -1);
        }
        Check.due("alike(0, 0)", x.alike(0, 0), -1);
        Check.due("powers(0, 1, 1)", x.powers(0, 1, 1), -100000000000000L);
        Check.due("associates(0, 0, 0)", x.associates(0, 0, 0), -1);
        Check.due("ball(0)", x.ball(0), -1);
    }
}
