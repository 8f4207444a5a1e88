import java.lang.reflect.InvocationTargetException;
import java.lang.reflect.Method;
import java.nio.charset.StandardCharsets;
import java.util.Arrays;
import java.util.Comparator;

/** What the tests share: counting wrong answers, feeding a text to the tape, telling a group and rows. */
final class Check {
    private static int wrong = 0;
    private static int asked = 0;
    private static String test = "";

    private Check() {
    }

    static void due(String call, long got, long want) {
        asked++;
        if (got != want) {
            wrong++;
            System.out.println(test + call + " answered " + got + ", due is " + want);
        }
    }

    static void due(String call, boolean got, boolean want) {
        due(call, got ? 1 : 0, want ? 1 : 0);
    }

    static void due(String call, String got, String want) {
        asked++;
        if (!got.equals(want)) {
            wrong++;
            System.out.println(test + call + " made " + got + ", due is " + want);
        }
    }

    static int wrong() {
        return wrong;
    }

    static void finish(String name) {
        System.out.println(name + ": " + asked + " answers, " + wrong + " of them not as due");
        if (wrong != 0 || asked == 0) {
            System.exit(1);
        }
    }

    /** Runs all methods of a class that are tests (static, not private, without arguments), then finishes. */
    static void runAll(Class<?> tests) {
        Method[] methods = tests.getDeclaredMethods();
        Arrays.sort(methods, Comparator.comparing(Method::getName));
        int run = 0;
        for (Method method : methods) {
            if (java.lang.reflect.Modifier.isPrivate(method.getModifiers()) || method.getParameterCount() > 0) {
                continue;
            }
            test = method.getName() + ": ";
            int before = asked;
            try {
                method.invoke(null);
            } catch (InvocationTargetException | IllegalAccessException problem) {
                wrong++;
                System.out.println(test + (problem.getCause() == null ? problem : problem.getCause()));
            }
            run++;
            if (asked == before) {
                wrong++;
                System.out.println(test + "asked nothing");
            }
        }
        test = "";
        finish(tests.getName() + ", " + run + " boundary cases");
    }

    /** Puts a text on an empty tape; '~' stands for byte 200. */
    static void feed(HallRegisters x, String text) {
        feedBytes(x, text.replace('~', (char) 200));
    }

    /** Puts a text of signs 0 .. 255 on an empty tape. */
    static void feedBytes(HallRegisters x, String text) {
        byte[] bytes = text.getBytes(StandardCharsets.ISO_8859_1);
        for (int from = 0; from < bytes.length; from += 20) {
            int[] numbers = new int[5];
            for (int p = 0; p < 20; p++) {
                int sign = from + p < bytes.length ? bytes[from + p] & 255 : 'x';
                numbers[p / 4] = numbers[p / 4] << 8 | sign;
            }
            due("feed for " + text, x.feed(numbers[0], numbers[1], numbers[2], numbers[3], numbers[4]), from + 20);
        }
        due("end for " + text, x.end(bytes.length), true);
    }

    /** text() of a text: 0, or its fault times 1000 and its place. */
    static int read(HallRegisters x, int r, String text) {
        feed(x, text);
        boolean made = x.text(r);
        if (made) {
            due("fault(0) without one", x.fault(0), 0);
            due("fault(1) without one", x.fault(1), -1);
            return 0;
        }
        return x.fault(0) * 1000 + x.fault(1);
    }

    static int collect(HallRegisters x, String word) {
        feed(x, word);
        return x.collect();
    }

    /** A text that is right: register 1 is then a row. */
    static void textDue(HallRegisters x, String text, String row) {
        due("text " + text, read(x, 1, text), 0);
        rowDue(x, "text " + text, 1, row);
    }

    static void faultDue(HallRegisters x, String text, int fault, int place) {
        due("text " + text, read(x, 1, text), fault * 1000 + place);
    }

    static void collectDue(HallRegisters x, String word, int exchanges, String row) {
        due("collect " + word, collect(x, word), exchanges);
        due("collected of " + word, collectedRow(x), row);
    }

    /** What collected() tells of letters 1 .. 6; "-" for each that is none. */
    static String collectedRow(HallRegisters x) {
        StringBuilder row = new StringBuilder();
        for (int i = 1; i <= 6; i++) {
            int count = x.collected(i);
            row.append(i > 1 ? " " : "").append(count == -1 ? "-" : "" + count);
        }
        return row.toString();
    }

    /** The exponents of a register, with a blank between two. */
    static String row(HallRegisters x, int register) {
        StringBuilder row = new StringBuilder();
        int n = x.look(0);
        for (int i = 1; i <= n; i++) {
            row.append(i > 1 ? " " : "").append(x.exponent(register, i));
        }
        return row.toString();
    }

    static void rowDue(HallRegisters x, String call, int register, String want) {
        due(call, row(x, register), want);
    }

    static void setRow(HallRegisters x, int register, int... exponents) {
        for (int i = 1; i <= exponents.length; i++) {
            due("set(" + register + ", " + i + ", " + exponents[i - 1] + ")", x.set(register, i, exponents[i - 1]), true);
        }
    }

    /** Weights as group() takes them, the first generator's digit first. */
    static int weights(String digits) {
        int packed = 0;
        for (int i = digits.length() - 1; i >= 0; i--) {
            packed = packed * 4 + digits.charAt(i) - '0';
        }
        return packed;
    }

    /** A new object's group: weights, and tails as "jik:v". */
    static HallRegisters of(String weights, String... tails) {
        HallRegisters x = new HallRegisters();
        due("group " + weights, x.group(weights.length(), weights(weights)), true);
        for (String tail : tails) {
            due("tail " + tail, x.tail(tail.charAt(0) - '0', tail.charAt(1) - '0', tail.charAt(2) - '0', tail.charAt(4) - '0'),
                true);
        }
        return x;
    }

    static HallRegisters ofKind(int kind) {
        HallRegisters x = new HallRegisters();
        due("kind(" + kind + ")", x.kind(kind), true);
        return x;
    }

    /** A group that is not consistent: of c b a one way around brings a letter f less. */
    static HallRegisters notConsistent() {
        HallRegisters x = ofKind(2);
        due("tail(4, 2, 6, 0)", x.tail(4, 2, 6, 0), true);
        return x;
    }

    /** All that acts may change, as a text: some 40 calls for three generators, 100 for six. */
    static String state(HallRegisters x) {
        StringBuilder all = new StringBuilder();
        int n = x.look(0);
        for (int what = 0; what <= 5; what++) {
            all.append(x.look(what)).append(' ');
        }
        all.append(x.look(9)).append(' ');
        for (int i = 1; i <= n; i++) {
            all.append(x.generator(i, 0)).append(' ').append(x.terms(i)).append(' ');
            for (int j = i + 1; j <= n; j++) {
                for (int k = j + 1; k <= n; k++) {
                    all.append(x.tailOf(j, i, k));
                }
            }
        }
        for (int register = 0; register < 10; register++) {
            all.append('/').append(row(x, register));
        }
        return all.toString();
    }
}
