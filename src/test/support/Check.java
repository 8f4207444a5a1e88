import java.nio.charset.StandardCharsets;

/** What the tests share: counting wrong answers, and feeding a text to the tape. */
final class Check {
    private static int wrong = 0;
    private static int asked = 0;

    private Check() {
    }

    static void due(String call, long got, long want) {
        asked++;
        if (got != want) {
            wrong++;
            System.out.println(call + " answered " + got + ", due is " + want);
        }
    }

    static void due(String call, boolean got, boolean want) {
        due(call, got ? 1 : 0, want ? 1 : 0);
    }

    static int wrong() {
        return wrong;
    }

    static void finish(String name) {
        System.out.println(name + ": " + asked + " answers, " + wrong + " of them not as due");
        if (wrong != 0 || asked == 0) {
            System.exit(1);
        }
    }

    /** Puts a text on an empty tape; '~' stands for byte 200. */
    static void feed(HallRegisters x, String text) {
        byte[] bytes = text.getBytes(StandardCharsets.ISO_8859_1);
        for (int from = 0; from < bytes.length; from += 20) {
            int[] numbers = new int[5];
            for (int p = 0; p < 20; p++) {
                int sign = from + p < bytes.length ? bytes[from + p] & 255 : 'x';
                numbers[p / 4] = numbers[p / 4] << 8 | (sign == '~' ? 200 : sign);
            }
            due("feed for " + text, x.feed(numbers[0], numbers[1], numbers[2], numbers[3], numbers[4]), from + 20);
        }
        due("end for " + text, x.end(bytes.length), true);
    }

    /** text() of a text: 0, or its fault times 1000 and its place. */
    static int read(HallRegisters x, int r, String text) {
        feed(x, text);
        boolean made = x.text(r);
        if (made) {
            due("fault(0) without one", x.fault(0), 0);
            due("fault(1) without one", x.fault(1), -1);
            return 0;
        }
        return x.fault(0) * 1000 + x.fault(1);
    }

    static int collect(HallRegisters x, String word) {
        feed(x, word);
        return x.collect();
    }

    /** The exponents of a register, with a blank between two. */
    static String row(HallRegisters x, int register) {
        StringBuilder row = new StringBuilder();
        for (int i = 1; i <= x.look(0); i++) {
            row.append(i > 1 ? " " : "").append(x.exponent(register, i));
        }
        return row.toString();
    }

    static void rowDue(HallRegisters x, String call, int register, String want) {
        asked++;
        String got = row(x, register);
        if (!got.equals(want)) {
            wrong++;
            System.out.println(call + " made " + got + ", due is " + want);
        }
    }

    static void setRow(HallRegisters x, int register, int... exponents) {
        for (int i = 1; i <= exponents.length; i++) {
            due("set(" + register + ", " + i + ", " + exponents[i - 1] + ")", x.set(register, i, exponents[i - 1]), true);
        }
    }
}
