import java.util.ArrayDeque;
import java.util.Deque;
import java.util.Random;

/** Promises 32 to 34: acts undone, the image, and what look() tells of them. */
public final class BackTest {
    private BackTest() {
    }

    public static void main(String[] args) {
        eachAct();
        eightAtMost();
        whatIsNotUndone();
        image();
        for (int seed = 0; seed < 40; seed++) {
            randomly(seed);
        }
        Check.finish("BackTest");
    }

    private static void actDue(HallRegisters x, String before, String call, boolean done) {
        Check.due(call, done, true);
        Check.due("look(6) after " + call, x.look(6), 1);
        Check.due("undo() of " + call, x.undo(), 0);
        Check.due("all is as ahead of " + call, Check.state(x).equals(before), true);
        Check.due("undo() once more", x.undo(), -1);
    }

    private static HallRegisters withARow() {
        HallRegisters x = new HallRegisters();
        Check.setRow(x, 0, 1, 2, 3);
        x.image(true);
        x.image(false);
        return x;
    }

    private static void eachAct() {
        HallRegisters x = withARow();
        String before = Check.state(x);
        Check.due("look(6)", x.look(6), 0);
        actDue(x, before, "set", x.set(1, 1, 7));
        actDue(x, before, "set of what it is", x.set(1, 1, 0));
        actDue(x, before, "multiply", x.multiply(1, 0, 0));
        actDue(x, before, "invert", x.invert(0, 0));
        x = withARow();
        actDue(x, before, "power", x.power(0, 0, 3));
        actDue(x, before, "commute", x.commute(0, 0, 0));
        actDue(x, before, "conjugate", x.conjugate(9, 0, 0));
        actDue(x, before, "root", x.root(9, 0, 1));
        x = withARow();
        actDue(x, before, "seek", x.seek(9, 0, 0, 1));
        Check.feed(x, "ab");
        actDue(x, before, "text", x.text(0));
        actDue(x, before, "group", x.group(4, 85));
        actDue(x, before, "tail", x.tail(2, 1, 3, 2));
        x = withARow();
        actDue(x, before, "tail of what it is", x.tail(2, 1, 3, 1));
        actDue(x, before, "kind", x.kind(2));
        actDue(x, before, "kind of what it is", x.kind(0));
        x.set(0, 1, 1000);
        x.power(0, 0, 100);
        x.root(0, 0, 50);
        x.seek(0, 0, 1, 1);
        Check.feed(x, "g");
        x.text(0);
        Check.collect(x, "ba");
        x.feed(0, 0, 0, 0, 0);
        x.group(0, 0);
        x.tail(1, 2, 3, 1);
        x.kind(7);
        x.image(true);
        Check.due("none of these is an act", x.look(6), 0);
        Check.due("none of these changes registers", Check.state(x).equals(before), true);
    }

    private static void eightAtMost() {
        HallRegisters x = new HallRegisters();
        for (int v = 1; v <= 20; v++) {
            x.set(0, 1, v);
            Check.due("look(6)", x.look(6), Math.min(v, 8));
        }
        for (int left = 7; left >= 0; left--) {
            Check.due("undo()", x.undo(), left);
            Check.due("exponent", x.exponent(0, 1), 12 + left);
        }
        Check.due("undo()", x.undo(), -1);
        Check.due("exponent", x.exponent(0, 1), 12);
        x.set(0, 1, 99);
        Check.due("look(6)", x.look(6), 1);
        x.undo();
        Check.due("exponent", x.exponent(0, 1), 12);
    }

    private static void whatIsNotUndone() {
        HallRegisters x = new HallRegisters();
        Check.setRow(x, 0, 0, 999, 0);
        Check.setRow(x, 1, 999, 0, 0);
        x.image(true);
        x.set(2, 1, 1);
        x.multiply(2, 0, 1);
        Check.collect(x, "bba");
        Check.due("a fault", Check.read(x, 3, "R0R1"), 5004);
        x.feed(0, 0, 0, 0, 0);
        Check.due("look(8)", x.look(8), 2);
        Check.due("undo()", x.undo(), 6);
        Check.due("what is counted stays", x.look(8), 2);
        Check.due("what was collected stays", x.collected(3), 2);
        Check.due("the tape stays", x.look(7), 20);
        Check.due("fault(0) stays", x.fault(0), 5);
        Check.due("fault(1) stays", x.fault(1), 4);
        Check.due("the image stays", x.image(false), true);
        Check.due("the image's count", x.look(8), 0);
        Check.due("the image's registers", x.exponent(1, 1), 999);
        Check.due("what the image collected", x.collected(3), -1);
        Check.due("the tape stays", x.look(7), 20);
        Check.due("fault(0) stays", x.fault(0), 5);
        Check.due("fault(1) stays", x.fault(1), 4);
        Check.due("look(6)", x.look(6), 0);
    }

    private static void image() {
        HallRegisters x = new HallRegisters();
        Check.due("image(false)", x.image(false), false);
        x.kind(2);
        Check.setRow(x, 3, 1, 2, 3, 4, 5, 6);
        Check.collect(x, "cba");
        int collected = x.collected(6);
        String before = Check.state(x);
        Check.due("image(true)", x.image(true), true);
        Check.due("taking it leaves the acts", x.look(6), 7);
        for (int round = 0; round < 3; round++) {
            x.kind(round);
            x.set(0, 1, 5);
            Check.collect(x, "ba");
            Check.due("image(false)", x.image(false), true);
            Check.due("all is as in the image", Check.state(x).equals(before), true);
            Check.due("collected(6)", x.collected(6), collected);
            Check.due("undo()", x.undo(), -1);
        }
        x = new HallRegisters();
        x.set(0, 1, 5);
        x.image(true);
        x.set(0, 1, 6);
        x.image(false);
        Check.due("the latest image", x.exponent(0, 1), 5);
        x.kind(2);
        x.tail(4, 2, 6, 0);
        x.image(true);
        x.kind(0);
        x.image(false);
        Check.due("an image that is not consistent", x.consistent(), 0);
        Check.due("set", x.set(0, 1, 1), false);
    }

    /** Each beginning of a row of random calls, on an object of its own, since looking at all takes many calls too. */
    private static void randomly(int seed) {
        Deque<String> states = new ArrayDeque<>();
        String taken = null;
        String before = Check.state(new HallRegisters());
        for (int calls = 1; calls <= 60 && Check.wrong() < 5; calls++) {
            HallRegisters x = new HallRegisters();
            Random random = new Random(seed);
            int chosen = 0;
            int answer = 0;
            for (int call = 0; call < calls; call++) {
                chosen = random.nextInt(16);
                answer = chosen < 3 ? x.undo() : chosen < 5 ? bit(x.image(chosen == 3)) : bit(act(x, chosen, random));
            }
            String told = seed + ", call " + calls + ": ";
            String due = before;
            if (chosen < 3) {
                Check.due(told + "undo()", answer, states.size() - 1);
                due = states.isEmpty() ? before : states.pop();
            } else if (chosen == 3) {
                taken = before;
            } else if (chosen == 4) {
                Check.due(told + "image(false)", answer, taken == null ? 0 : 1);
                if (taken != null) {
                    due = taken;
                    states.clear();
                }
            } else if (answer == 1) {
                states.push(before);
                while (states.size() > 8) {
                    states.removeLast();
                }
                due = Check.state(x);
            }
            Check.due(told + "look(6)", x.look(6), states.size());
            before = Check.state(x);
            Check.due(told + "all", before, due);
        }
    }

    private static int bit(boolean holds) {
        return holds ? 1 : 0;
    }

    private static boolean act(HallRegisters x, int chosen, Random random) {
        int r = random.nextInt(10);
        int a = random.nextInt(3);
        int b = random.nextInt(3);
        switch (chosen) {
            case 5: return x.kind(random.nextInt(5));
            case 6: return x.tail(3 + random.nextInt(3), 1 + random.nextInt(2), 4 + random.nextInt(3), random.nextInt(4));
            case 7: return x.group(1 + random.nextInt(3), 21);
            case 8: return x.multiply(r, a, b);
            case 9: return x.power(r, a, random.nextInt(9) - 4);
            case 10: return x.conjugate(r, a, b);
            case 11:
                Check.feed(x, random.nextBoolean() ? "(ab)^7R1" : "ba)");
                return x.text(r);
            default: return x.set(a, 1 + random.nextInt(6), random.nextInt(40) - 20);
        }
    }
}
