import java.math.BigInteger;

/** Reads a text by the grammar, with numbers without bounds on the way; a fault ends it. Of another make than the class's. */
final class Words {
    /** What a text is stopped by. */
    static final class Fault extends RuntimeException {
        private static final long serialVersionUID = 1;
        final int told;

        Fault(int kind, int place) {
            super(null, null, false, false);
            told = kind * 1000 + place;
        }
    }

    private final Oracle oracle;
    private final BigInteger[][] registers;
    private final String text;
    private int at = 0;
    private int last = 0;

    Words(Oracle oracle, BigInteger[][] registers, String text) {
        this.oracle = oracle;
        this.registers = registers;
        this.text = text;
    }

    BigInteger[] all() {
        BigInteger[] value = word(0);
        if (at < text.length()) {
            throw new Fault(1, at);
        }
        return value;
    }

    private char sign() {
        return at < text.length() ? text.charAt(at) : 0;
    }

    private char next() {
        while (sign() == ' ') {
            at++;
        }
        return sign();
    }

    private void take(char sign) {
        if (next() != sign) {
            throw new Fault(1, at);
        }
        at++;
        last = at;
    }

    private BigInteger[] bounded(BigInteger[] value, int place) {
        if (!Oracle.within(value)) {
            throw new Fault(5, place);
        }
        return value;
    }

    private BigInteger[] word(int open) {
        BigInteger[] value = oracle.one();
        while ("abcdefR([".indexOf(next()) >= 0 && at < text.length()) {
            BigInteger[] factor = power(factor(open));
            value = bounded(oracle.product(value, factor), last);
        }
        return value;
    }

    private BigInteger[] factor(int open) {
        char sign = sign();
        if ((sign == '(' || sign == '[') && open == 8) {
            throw new Fault(4, at);
        }
        if (sign >= 'a' && sign <= 'f' && sign - 'a' >= oracle.n) {
            throw new Fault(3, at);
        }
        take(sign);
        if (sign == 'R') {
            int register = "0123456789".indexOf(sign());
            if (register < 0 || at >= text.length()) {
                throw new Fault(1, at);
            }
            take(sign());
            return registers[register];
        }
        if (sign != '(' && sign != '[') {
            return oracle.generator(sign - 'a' + 1, 1);
        }
        BigInteger[] value = word(open + 1);
        if (sign == '(') {
            take(')');
            return value;
        }
        take(',');
        value = bounded(oracle.commutator(value, word(open + 1)), last);
        while (next() == ',') {
            take(',');
            value = bounded(oracle.commutator(value, word(open + 1)), last);
        }
        take(']');
        return value;
    }

    private BigInteger[] power(BigInteger[] factor) {
        if (next() != '^') {
            return factor;
        }
        take('^');
        boolean below = next() == '-';
        if (below) {
            take('-');
        }
        next();
        int begin = at;
        while (sign() >= '0' && sign() <= '9') {
            at++;
        }
        if (at == begin) {
            throw new Fault(1, at);
        }
        BigInteger number = new BigInteger(text.substring(begin, at));
        if (number.bitLength() > 7 || number.intValue() > 99) {
            throw new Fault(2, begin);
        }
        last = at;
        return bounded(oracle.power(factor, below ? -number.intValue() : number.intValue()), last);
    }
}
