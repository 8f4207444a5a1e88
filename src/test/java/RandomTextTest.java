import java.math.BigInteger;
import java.util.Random;

/** Promises 15 and 16: random texts, right and wrong, against a reader of another make, with numbers without bounds. */
public final class RandomTextTest {
    private static final String[] PIECES = {"a", "b", "c", "d", "e", "f", "R0", "R1", "R2", "(", ")", "[", ",", "]", "^2",
        "^-1", " ^ - 3", "^99", "^100", " ", "g", "R", "^", "-", "7", "^0", "~", "((((", "[(["};

    private RandomTextTest() {
    }

    /** What a text is stopped by. */
    private static final class Fault extends RuntimeException {
        private static final long serialVersionUID = 1;
        final int told;

        Fault(int kind, int place) {
            super(null, null, false, false);
            told = kind * 1000 + place;
        }
    }

    public static void main(String[] args) {
        int groups = args.length > 0 ? Integer.parseInt(args[0]) : 120;
        int[] faults = new int[6];
        for (int seed = 0; seed < groups && Check.wrong() < 10; seed++) {
            Random random = new Random(seed);
            Oracle oracle = Oracle.random(random);
            if (!oracle.consistent()) {
                continue;
            }
            oracle.findTerms();
            BigInteger[][] registers = new BigInteger[10][];
            for (int register = 0; register < 10; register++) {
                registers[register] = oracle.one();
                for (int i = 1; register < 3 && i <= oracle.n; i++) {
                    registers[register][i] = BigInteger.valueOf(random.nextInt(2 * 30 + 1) - 30);
                }
            }
            HallRegisters x = null;
            for (int round = 0; round < 60; round++) {
                x = round % 6 == 0 ? made(oracle, registers) : x;
                faults[check(x, oracle, registers, round % 3 == 0 ? soup(random) : word(random, 0, round % 3 == 1))]++;
            }
        }
        StringBuilder seen = new StringBuilder("texts by fault:");
        for (int fault : faults) {
            seen.append(' ').append(fault);
        }
        System.out.println(seen);
        Check.finish("RandomTextTest");
    }

    private static HallRegisters made(Oracle oracle, BigInteger[][] registers) {
        HallRegisters x = new HallRegisters();
        oracle.tell(x);
        for (int register = 0; register < 10; register++) {
            for (int i = 1; i <= oracle.n; i++) {
                if (registers[register][i].signum() != 0) {
                    Check.due("set", x.set(register, i, registers[register][i].intValueExact()), true);
                }
            }
        }
        return x;
    }

    private static int check(HallRegisters x, Oracle oracle, BigInteger[][] registers, String text) {
        if (text.length() > 200) {
            return 0;
        }
        int over = x.look(8);
        try {
            BigInteger[] want = new Words(oracle, registers, text).all();
            Check.due("text '" + text + "'", Check.read(x, 9, text), 0);
            for (int i = 1; i <= oracle.n; i++) {
                Check.due("text '" + text + "' exponent " + i, x.exponent(9, i), want[i].intValueExact());
            }
            registers[9] = want;
            return 0;
        } catch (Fault fault) {
            Check.due("text '" + text + "' with n " + oracle.n, Check.read(x, 9, text), fault.told);
            Check.due("look(8)", x.look(8), over + (fault.told / 1000 == 5 ? 1 : 0));
            return fault.told / 1000;
        }
    }

    private static String soup(Random random) {
        StringBuilder text = new StringBuilder();
        for (int piece = random.nextInt(12); piece >= 0; piece--) {
            text.append(PIECES[random.nextInt(PIECES.length)]);
        }
        return text.toString();
    }

    /** A word as the grammar has it; at times one byte of it is another. */
    private static String word(Random random, int depth, boolean right) {
        StringBuilder text = new StringBuilder();
        for (int factor = random.nextInt(depth > 3 ? 2 : 4); factor > 0; factor--) {
            text.append(random.nextInt(5) == 0 ? " " : "");
            int kind = random.nextInt(depth > 6 ? 4 : 7);
            if (kind < 2) {
                text.append((char) ('a' + random.nextInt(right ? 3 : 6)));
            } else if (kind < 4) {
                text.append('R').append(random.nextInt(10));
            } else if (kind == 4) {
                text.append('(').append(word(random, depth + 1, right)).append(')');
            } else {
                text.append('[').append(word(random, depth + 1, right));
                for (int more = 1 + random.nextInt(2); more > 0; more--) {
                    text.append(',').append(word(random, depth + 1, right));
                }
                text.append(']');
            }
            if (random.nextInt(4) == 0) {
                text.append(random.nextBoolean() ? "^" : " ^ -").append(random.nextInt(random.nextBoolean() ? 4 : 100));
            }
        }
        text.append(random.nextInt(5) == 0 ? " " : "");
        if (depth == 0 && !right && text.length() > 0) {
            String piece = PIECES[random.nextInt(PIECES.length)];
            text.setCharAt(random.nextInt(text.length()), piece.charAt(random.nextInt(piece.length())));
        }
        return text.toString();
    }

    /** Reads by the grammar; a fault ends it. */
    private static final class Words {
        private final Oracle oracle;
        private final BigInteger[][] registers;
        private final String text;
        private int at = 0;
        private int last = 0;

        Words(Oracle oracle, BigInteger[][] registers, String text) {
            this.oracle = oracle;
            this.registers = registers;
            this.text = text;
        }

        BigInteger[] all() {
            BigInteger[] value = word(0);
            if (at < text.length()) {
                throw new Fault(1, at);
            }
            return value;
        }

        private char sign() {
            return at < text.length() ? text.charAt(at) : 0;
        }

        private char next() {
            while (sign() == ' ') {
                at++;
            }
            return sign();
        }

        private void take(char sign) {
            if (next() != sign) {
                throw new Fault(1, at);
            }
            at++;
            last = at;
        }

        private BigInteger[] bounded(BigInteger[] value, int place) {
            if (!Oracle.within(value)) {
                throw new Fault(5, place);
            }
            return value;
        }

        private BigInteger[] word(int open) {
            BigInteger[] value = oracle.one();
            while ("abcdefR([".indexOf(next()) >= 0 && at < text.length()) {
                BigInteger[] factor = power(factor(open));
                value = bounded(oracle.product(value, factor), last);
            }
            return value;
        }

        private BigInteger[] factor(int open) {
            char sign = sign();
            if ((sign == '(' || sign == '[') && open == 8) {
                throw new Fault(4, at);
            }
            if (sign >= 'a' && sign <= 'f' && sign - 'a' >= oracle.n) {
                throw new Fault(3, at);
            }
            take(sign);
            if (sign == 'R') {
                int register = "0123456789".indexOf(sign());
                if (register < 0 || at >= text.length()) {
                    throw new Fault(1, at);
                }
                take(sign());
                return registers[register];
            }
            if (sign != '(' && sign != '[') {
                return oracle.generator(sign - 'a' + 1, 1);
            }
            BigInteger[] value = word(open + 1);
            if (sign == '(') {
                take(')');
                return value;
            }
            take(',');
            value = bounded(oracle.commutator(value, word(open + 1)), last);
            while (next() == ',') {
                take(',');
                value = bounded(oracle.commutator(value, word(open + 1)), last);
            }
            take(']');
            return value;
        }

        private BigInteger[] power(BigInteger[] factor) {
            if (next() != '^') {
                return factor;
            }
            take('^');
            boolean below = next() == '-';
            if (below) {
                take('-');
            }
            next();
            int begin = at;
            while (sign() >= '0' && sign() <= '9') {
                at++;
            }
            if (at == begin) {
                throw new Fault(1, at);
            }
            BigInteger number = new BigInteger(text.substring(begin, at));
            if (number.bitLength() > 7 || number.intValue() > 99) {
                throw new Fault(2, begin);
            }
            last = at;
            return bounded(oracle.power(factor, below ? -number.intValue() : number.intValue()), last);
        }
    }
}
