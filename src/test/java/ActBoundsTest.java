/**
 * A boundary case of the document each: acts undone, the image, what look() tells, an object's last call (Term 4 from its acts
 * on, promises 32 to 34). DocTest holds the words to it.
 */
public final class ActBoundsTest {
    private static final int[] FAR = {Integer.MIN_VALUE, Integer.MAX_VALUE};

    private ActBoundsTest() {
    }

    public static void main(String[] args) {
        Check.runAll(ActBoundsTest.class);
    }

    private static HallRegisters full() {
        HallRegisters x = new HallRegisters();
        Check.setRow(x, 0, 999, 999, 999);
        Check.setRow(x, 1, 1, 2, 3);
        Check.due("image(true)", x.image(true), true);
        Check.due("image(false)", x.image(false), true);
        return x;
    }

    // ---- all of it

    /** What it is: "An object is used for at most 512 calls after it has been made". */
    static void theLastOfAllCalls() {
        HallRegisters x = new HallRegisters();
        Check.due("set, the first call", x.set(0, 1, 999), true);
        for (int call = 2; call <= 511; call++) {
            Check.due("multiply, call " + call, x.multiply(1, 0, 0), false);
        }
        Check.due("look(8), call 512", x.look(8), 510);
        x = new HallRegisters();
        for (int call = 1; call <= 511; call++) {
            Check.due("set, call " + call, x.set(0, 1, call), true);
        }
        Check.due("undo(), call 512", x.undo(), 7);
        x = new HallRegisters();
        for (int call = 1; call <= 511; call++) {
            Check.due("kind, call " + call, x.kind(call % 4), true);
        }
        Check.due("n, call 512", x.look(0), 6);
        x = new HallRegisters();
        for (int call = 1; call <= 510; call += 3) {
            Check.due("feed, call " + call, x.feed(0x62612020, 0x20202020, 0x20202020, 0x20202020, 0x20202020), 20);
            Check.due("end, call " + (call + 1), x.end(2), true);
            Check.due("text or collect, call " + (call + 2), call % 2 == 0 ? x.collect() : x.text(0) ? 1 : 0, 1);
        }
        Check.due("image(true), call 511", x.image(true), true);
        Check.due("image(false), call 512", x.image(false), true);
    }

    /** The constants: "NONE = -1". */
    static void none() {
        Check.due("NONE", HallRegisters.NONE, -1);
        HallRegisters x = new HallRegisters();
        Check.due("undo()", x.undo(), HallRegisters.NONE);
        Check.due("exponent(10, 1)", x.exponent(10, 1), HallRegisters.NONE - 9999);
        Check.due("powers(10, 1, 1)", x.powers(10, 1, 1), HallRegisters.NONE - 99999999999999L);
    }

    // ---- Term 4, promise 32

    /** Term 4: "ACTS that can be UNDONE (the latest 8)". */
    static void eightActs() {
        HallRegisters x = new HallRegisters();
        for (int v = 1; v <= 21; v++) {
            Check.due("set", x.set(0, 1, v), true);
            Check.due("ACTS", x.look(6), Math.min(v, 8));
        }
        for (int left = 7; left >= 0; left--) {
            Check.due("undo()", x.undo(), left);
            Check.due("ACTS", x.look(6), left);
            Check.due("EXPONENT", x.exponent(0, 1), 13 + left);
        }
        Check.due("undo() of the ninth", x.undo(), -1);
        Check.due("EXPONENT", x.exponent(0, 1), 13);
        for (int v = 1; v <= 11; v++) {
            Check.due("set", x.set(0, 2, v), true);
            if (v % 3 == 0) {
                Check.due("undo()", x.undo(), Math.min(v / 3 * 2 + v % 3, 8));
            }
        }
        Check.due("EXPONENT", x.exponent(0, 2), 11);
        Check.due("undo()", x.undo(), 7);
        Check.due("EXPONENT", x.exponent(0, 2), 10);
        Check.due("undo()", x.undo(), 6);
        Check.due("EXPONENT, as the ninth was undone", x.exponent(0, 2), 8);
    }

    private static void actDue(String call, boolean done, HallRegisters x, String before) {
        Check.due(call, done, true);
        Check.due("ACTS behind " + call, x.look(6), 1);
        Check.due("undo() of " + call, x.undo(), 0);
        Check.due("all as ahead of " + call, Check.state(x), before);
    }

    /** Term 4: "whatever changes a REGISTER's ELEMENT by a call or might". */
    static void whatIsAnAct() {
        HallRegisters x = full();
        String before = Check.state(x);
        actDue("set", x.set(2, 1, 7), x, before);
        actDue("set to what it is", x.set(1, 1, 1), x, before);
        x = full();
        actDue("multiply", x.multiply(2, 1, 1), x, before);
        actDue("multiply to what it is", x.multiply(1, 1, 9), x, before);
        actDue("invert", x.invert(1, 1), x, before);
        actDue("invert of ONE", x.invert(9, 8), x, before);
        x = full();
        actDue("power", x.power(1, 1, -3), x, before);
        actDue("power 1", x.power(1, 1, 1), x, before);
        actDue("commute", x.commute(0, 1, 0), x, before);
        actDue("commute of ONE", x.commute(9, 8, 7), x, before);
        actDue("conjugate", x.conjugate(1, 1, 1), x, before);
        x = full();
        actDue("root", x.root(1, 1, 1), x, before);
        actDue("seek", x.seek(9, 1, 1, 2), x, before);
        Check.feed(x, "ab");
        actDue("text", x.text(0), x, before);
        actDue("text of ONE", x.text(9), x, before);
    }

    /** Term 4: "group(), tail(), kind(): all but". */
    static void groupsAreActs() {
        HallRegisters x = full();
        String before = Check.state(x);
        actDue("group", x.group(6, Check.weights("111223")), x, before);
        actDue("group 37", x.group(3, 37), x, before);
        actDue("tail", x.tail(2, 1, 3, 2), x, before);
        actDue("tail to what it is", x.tail(2, 1, 3, 1), x, before);
        x = full();
        actDue("kind", x.kind(2), x, before);
        actDue("kind to what it is", x.kind(0), x, before);
        Check.due("kind", x.kind(2), true);
        Check.due("a GROUP that is not CONSISTENT", x.tail(4, 2, 6, 0), true);
        Check.due("undo()", x.undo(), 1);
        Check.due("consistent()", x.consistent(), 1);
        Check.due("undo()", x.undo(), 0);
        Check.due("all as ahead of both", Check.state(x), before);
    }

    /** Term 4: "(as far as not refused)". */
    static void whatIsRefusedIsNoAct() {
        HallRegisters x = full();
        String before = Check.state(x);
        Check.due("set", x.set(1, 1, 1000), false);
        Check.due("multiply", x.multiply(1, 0, 0), false);
        Check.due("invert", x.invert(1, 0), false);
        Check.due("power", x.power(1, 0, 2), false);
        Check.due("power 100", x.power(1, 9, 100), false);
        Check.due("commute", x.commute(1, 0, 10), false);
        Check.due("conjugate", x.conjugate(1, 0, -1), false);
        Check.due("root", x.root(1, 0, 2), false);
        Check.due("seek", x.seek(1, 0, 9, 3), false);
        Check.due("text", Check.read(x, 1, "R0a"), 5003);
        Check.due("text", Check.read(x, 1, "g"), 1000);
        Check.due("group", x.group(3, 0), false);
        Check.due("tail", x.tail(2, 1, 3, 4), false);
        Check.due("kind", x.kind(4), false);
        Check.due("ACTS", x.look(6), 0);
        Check.due("all as before", Check.state(x), before);
        Check.due("feed", x.feed(0x62616261, 0, 0, 0, 0), 20);
        Check.due("end", x.end(4), true);
        Check.due("collect", x.collect(), 6);
        Check.due("image", x.image(true), true);
        Check.due("undo()", x.undo(), -1);
        Check.due("ACTS", x.look(6), 0);
    }

    /** Term 4: "all but what is counted or was COLLECTED, THE TAPE, fault(), THE IMAGE is as ahead of it". */
    static void whatIsNotUndone() {
        HallRegisters x = full();
        Check.due("set", x.set(1, 1, 9), true);
        Check.due("multiply", x.multiply(1, 0, 0), false);
        Check.collectDue(x, "bba", 3, "1 2 2 - - -");
        Check.faultDue(x, "R0^2", 5, 4);
        Check.due("image(true)", x.image(true), true);
        Check.due("feed", x.feed(0x62616261, 0, 0, 0, 0), 20);
        Check.due("undo()", x.undo(), 0);
        Check.due("EXPONENT", x.exponent(1, 1), 1);
        Check.due("what is counted", x.look(8), 2);
        Check.due("what was COLLECTED", Check.collectedRow(x), "1 2 2 - - -");
        Check.due("THE TAPE", x.look(7), 20);
        Check.due("fault(0)", x.fault(0), 5);
        Check.due("fault(1)", x.fault(1), 4);
        Check.due("THE IMAGE", x.image(false), true);
        Check.due("EXPONENT in THE IMAGE", x.exponent(1, 1), 9);
        x = new HallRegisters();
        Check.due("kind", x.kind(3), true);
        Check.collectDue(x, "f", 0, "0 0 0 0 0 1");
        Check.due("undo()", x.undo(), 0);
        Check.due("what was COLLECTED", Check.collectedRow(x), "0 0 0 0 0 1");
    }

    /** Term 4: "group(), tail(), kind() make all REGISTERS ONE". */
    static void groupsMakeAllOne() {
        for (int call = 0; call < 4; call++) {
            HallRegisters x = full();
            Check.due("set", x.set(9, 1, 1), true);
            boolean done = call == 0 ? x.group(3, 37) : call == 1 ? x.tail(2, 1, 3, 1) : call == 2 ? x.kind(0) : x.kind(2);
            Check.due("call " + call, done, true);
            Check.due("REGISTERS that are not ONE", x.look(5), 0);
            for (int register = 0; register <= 9; register++) {
                Check.rowDue(x, "call " + call, register, call == 3 ? "0 0 0 0 0 0" : "0 0 0");
            }
        }
        HallRegisters x = Check.ofKind(2);
        Check.due("set", x.set(0, 6, 5), true);
        Check.due("a GROUP that is not CONSISTENT", x.tail(4, 2, 6, 0), true);
        Check.due("and one that is", x.tail(4, 2, 6, 1), true);
        Check.due("REGISTERS that are not ONE", x.look(5), 0);
    }

    /** Promise 32: "how many are left. NONE if there is none." */
    static void undoNone() {
        HallRegisters x = new HallRegisters();
        Check.due("undo() of a new object", x.undo(), -1);
        Check.due("set", x.set(0, 1, 1), true);
        Check.due("undo()", x.undo(), 0);
        Check.due("undo()", x.undo(), -1);
        Check.due("undo()", x.undo(), -1);
        Check.rowDue(x, "undo", 0, "0 0 0");
        Check.due("set", x.set(0, 1, 2), true);
        Check.due("set", x.set(0, 1, 3), true);
        Check.due("undo()", x.undo(), 1);
        Check.due("EXPONENT", x.exponent(0, 1), 2);
        Check.due("set", x.set(0, 1, 4), true);
        Check.due("undo()", x.undo(), 1);
        Check.due("undo()", x.undo(), 0);
        Check.due("EXPONENT", x.exponent(0, 1), 0);
    }

    // ---- Term 4, promise 33

    /** Term 4: "all that is and was told but THE TAPE, fault(), as it was when it was taken". */
    static void allOfTheImage() {
        HallRegisters x = Check.ofKind(1);
        Check.setRow(x, 3, 1, 2, 3, 4, 999);
        Check.due("multiply", x.multiply(3, 3, 3), false);
        Check.collectDue(x, "bba", 4, "1 2 2 0 1 -");
        String before = Check.state(x);
        Check.due("image(true)", x.image(true), true);
        Check.due("multiply", x.multiply(3, 3, 3), false);
        Check.collectDue(x, "c", 0, "0 0 1 0 0 -");
        Check.due("kind", x.kind(3), true);
        Check.faultDue(x, "g", 1, 0);
        Check.due("feed", x.feed(0x62616261, 0, 0, 0, 0), 20);
        Check.due("image(false)", x.image(false), true);
        Check.due("all as when it was taken", Check.state(x), before);
        Check.due("what is counted", x.look(8), 1);
        Check.due("what was COLLECTED", Check.collectedRow(x), "1 2 2 0 1 -");
        Check.due("but THE TAPE", x.look(7), 20);
        Check.due("but fault(0)", x.fault(0), 1);
        Check.due("but fault(1)", x.fault(1), 0);
    }

    /** Term 4: "gone back to it may be more than once (no ACTS are left then)". */
    static void theImageOnceMore() {
        HallRegisters x = new HallRegisters();
        Check.due("set", x.set(0, 1, 1), true);
        Check.due("image(true)", x.image(true), true);
        Check.due("ACTS, taken", x.look(6), 1);
        for (int round = 0; round < 3; round++) {
            Check.due("set", x.set(0, 1, 2), true);
            Check.due("image(false)", x.image(false), true);
            Check.due("EXPONENT", x.exponent(0, 1), 1);
            Check.due("ACTS", x.look(6), 0);
            Check.due("undo()", x.undo(), -1);
            Check.due("image(false) at once", x.image(false), true);
        }
        Check.due("set", x.set(0, 1, 3), true);
        Check.due("undo()", x.undo(), 0);
        Check.due("undone to THE IMAGE", x.exponent(0, 1), 1);
        Check.due("set", x.set(0, 1, 4), true);
        Check.due("another one is taken", x.image(true), true);
        Check.due("set", x.set(0, 1, 5), true);
        Check.due("image(false)", x.image(false), true);
        Check.due("EXPONENT", x.exponent(0, 1), 4);
        Check.due("kind", x.kind(2), true);
        Check.due("tail", x.tail(4, 2, 6, 0), true);
        Check.due("one that is not CONSISTENT is taken", x.image(true), true);
        Check.due("kind", x.kind(0), true);
        Check.due("image(false)", x.image(false), true);
        Check.due("consistent()", x.consistent(), 0);
    }

    /** Promise 33: "true; false if there is none." */
    static void noImage() {
        HallRegisters x = new HallRegisters();
        Check.due("set", x.set(0, 1, 1), true);
        Check.due("image(false)", x.image(false), false);
        Check.due("EXPONENT", x.exponent(0, 1), 1);
        Check.due("ACTS", x.look(6), 1);
        Check.due("image(true)", x.image(true), true);
        Check.due("image(false)", x.image(false), true);
        Check.due("undo()", x.undo(), -1);
        Check.due("image(false)", x.image(false), true);
        Check.due("another object has none", new HallRegisters().image(false), false);
    }

    // ---- promise 34

    /** Promise 34: "0 n, 1 CLASS, 2 whether CONSISTENT (1, 0)". */
    static void lookAtTheGroup() {
        HallRegisters x = Check.of("3");
        Check.due("n", x.look(0), 1);
        Check.due("CLASS", x.look(1), 3);
        Check.due("CONSISTENT", x.look(2), 1);
        x = Check.notConsistent();
        Check.due("n", x.look(0), 6);
        Check.due("CLASS", x.look(1), 3);
        Check.due("CONSISTENT", x.look(2), 0);
    }

    /** Promise 34: "3 TAILS above 0". */
    static void lookAtTails() {
        HallRegisters x = Check.of("112");
        Check.due("none", x.look(3), 0);
        Check.due("tail", x.tail(2, 1, 3, 3), true);
        Check.due("one of 3", x.look(3), 1);
        Check.due("tail", x.tail(2, 1, 3, 0), true);
        Check.due("none", x.look(3), 0);
        x = Check.of("112333", "213:1", "214:1", "215:1", "216:1", "314:1", "315:1", "316:1", "324:1", "325:1", "326:1");
        Check.due("ten", x.look(3), 10);
        Check.due("of one that is not CONSISTENT", Check.notConsistent().look(3), 3);
    }

    /** Promise 34: "4 TERMS of all POLYNOMIALS together (0 without)". */
    static void lookAtTerms() {
        Check.due("of one GENERATOR", Check.of("1").look(4), 2);
        Check.due("of six", Check.of("111111").look(4), 12);
        Check.due("of the first GROUP", new HallRegisters().look(4), 7);
        HallRegisters x = Check.notConsistent();
        Check.due("without", x.look(4), 0);
        Check.due("tail", x.tail(4, 2, 6, 1), true);
        Check.due("with them", x.look(4), 17);
        Check.due("tail", x.tail(4, 2, 6, 2), true);
        Check.due("without once more", x.look(4), 0);
    }

    /** Promise 34: "5 REGISTERS that are not ONE (a set)". */
    static void lookAtRegisters() {
        HallRegisters x = new HallRegisters();
        Check.due("none", x.look(5), 0);
        Check.due("set", x.set(9, 3, -1), true);
        Check.due("the last", x.look(5), 512);
        Check.due("set", x.set(0, 1, 1), true);
        Check.due("the first and the last", x.look(5), 513);
        for (int register = 1; register <= 8; register++) {
            Check.due("set", x.set(register, 2, 5), true);
        }
        Check.due("all", x.look(5), 1023);
        Check.due("set", x.set(9, 3, 0), true);
        Check.due("all but the last", x.look(5), 511);
    }

    /** Promise 34: "6 ACTS that can be UNDONE". */
    static void lookAtActs() {
        HallRegisters x = new HallRegisters();
        Check.due("none", x.look(6), 0);
        for (int act = 1; act <= 10; act++) {
            Check.due("kind", x.kind(act % 4), true);
            Check.due("ACTS", x.look(6), Math.min(act, 8));
        }
        Check.due("undo()", x.undo(), 7);
        Check.due("ACTS", x.look(6), 7);
    }

    /** Promise 34: "7 bytes of THE TAPE". */
    static void lookAtTheTape() {
        HallRegisters x = new HallRegisters();
        Check.due("none", x.look(7), 0);
        Check.feed(x, " ".repeat(200));
        Check.due("200", x.look(7), 200);
        Check.due("end", x.end(199), true);
        Check.due("199", x.look(7), 199);
        Check.due("text", x.text(0), true);
        Check.due("none", x.look(7), 0);
    }

    /** Promise 34: "8 how many times what multiply(), invert(), power(), commute(), conjugate() should make was OVER". */
    static void lookAtWhatWasOver() {
        HallRegisters x = new HallRegisters();
        Check.setRow(x, 0, 999, 999, 999);
        Check.setRow(x, 1, -998, 1, 0);
        Check.due("none", x.look(8), 0);
        Check.due("multiply", x.multiply(2, 0, 0), false);
        Check.due("1", x.look(8), 1);
        Check.due("invert", x.invert(2, 0), false);
        Check.due("2", x.look(8), 2);
        Check.due("power", x.power(2, 0, 2), false);
        Check.due("3", x.look(8), 3);
        Check.due("commute", x.commute(2, 0, 1), false);
        Check.due("4", x.look(8), 4);
        Check.due("conjugate", x.conjugate(2, 0, 1), false);
        Check.due("5", x.look(8), 5);
        Check.due("set", x.set(0, 1, 1000), false);
        Check.setRow(x, 3, 100, -60, 500);
        Check.due("root", x.root(2, 3, 2), false);
        Check.due("seek", x.seek(2, 0, 3, 3), false);
        Check.due("power 100", x.power(2, 0, 100), false);
        Check.due("multiply, no REGISTER", x.multiply(10, 0, 0), false);
        Check.due("multiply", x.multiply(2, 9, 0), true);
        Check.due("power", x.power(2, 0, 0), true);
        Check.due("both", x.both(0, 1, 1), 2);
        Check.due("associates", x.associates(0, 0, 0), 1);
        Check.due("5 still", x.look(8), 5);
        Check.due("kind", x.kind(0), true);
        Check.due("5 in another GROUP", x.look(8), 5);
    }

    /** Promise 34: "and text() told FAULT 5". */
    static void lookAtTextsThatWereOver() {
        HallRegisters x = new HallRegisters();
        Check.setRow(x, 0, 999, 0, 0);
        Check.faultDue(x, "R0R0", 5, 4);
        Check.due("1", x.look(8), 1);
        Check.faultDue(x, "R0^2", 5, 4);
        Check.faultDue(x, "[R0,bb]", 5, 6);
        Check.due("3", x.look(8), 3);
        Check.faultDue(x, "gR0R0", 1, 0);
        Check.faultDue(x, "a^100", 2, 2);
        Check.faultDue(x, "d", 3, 0);
        Check.faultDue(x, "(((((((((", 4, 8);
        Check.feed(x, "R0R0");
        Check.due("text(10)", x.text(10), false);
        Check.due("3 still", x.look(8), 3);
    }

    /** Promise 34: "9 GENERATORS that are CENTRAL (a set, bit i less 1; 0 if not CONSISTENT)". */
    static void lookAtCentralGenerators() {
        Check.due("one", Check.of("1").look(9), 1);
        Check.due("six", Check.of("111111").look(9), 63);
        Check.due("the first GROUP", new HallRegisters().look(9), 4);
        Check.due("the first and the last", Check.of("1123", "324:1").look(9), 9);
        HallRegisters x = Check.notConsistent();
        Check.due("not CONSISTENT", x.look(9), 0);
        Check.due("tail", x.tail(5, 1, 6, 0), true);
        Check.due("CONSISTENT", x.look(9), 56);
    }

    /** Promise 34: "NONE for another what." */
    static void lookAtNothingElse() {
        HallRegisters x = new HallRegisters();
        Check.due("look(-1)", x.look(-1), -1);
        Check.due("look(10)", x.look(10), -1);
        Check.due("look(9)", x.look(9), 4);
        for (int what : FAR) {
            Check.due("look(" + what + ")", x.look(what), -1);
        }
    }
}
