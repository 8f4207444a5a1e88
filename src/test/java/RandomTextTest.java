import java.math.BigInteger;
import java.util.Random;

/** Promises 15 and 16: random texts, right and wrong, against a reader of another make, with numbers without bounds. */
public final class RandomTextTest {
    private RandomTextTest() {
    }

    public static void main(String[] args) {
        int groups = args.length > 0 ? Integer.parseInt(args[0]) : 120;
        int[] faults = new int[6];
        for (int seed = 0; seed < groups && Check.wrong() < 10; seed++) {
            Random random = new Random(seed);
            Oracle oracle = Oracle.random(random);
            if (!oracle.consistent()) {
                continue;
            }
            oracle.findTerms();
            BigInteger[][] registers = new BigInteger[10][];
            for (int register = 0; register < 10; register++) {
                registers[register] = oracle.one();
                for (int i = 1; register < 3 && i <= oracle.n; i++) {
                    registers[register][i] = BigInteger.valueOf(random.nextInt(2 * 30 + 1) - 30);
                }
            }
            HallRegisters x = null;
            for (int round = 0; round < 60; round++) {
                x = round % 6 == 0 ? made(oracle, registers) : x;
                faults[check(x, oracle, registers, round % 3 == 0 ? RandomWords.soup(random)
                    : RandomWords.word(random, 0, round % 3 == 1))]++;
            }
        }
        StringBuilder seen = new StringBuilder("texts by fault:");
        for (int fault : faults) {
            seen.append(' ').append(fault);
        }
        System.out.println(seen);
        Check.finish("RandomTextTest");
    }

    private static HallRegisters made(Oracle oracle, BigInteger[][] registers) {
        HallRegisters x = new HallRegisters();
        oracle.tell(x);
        for (int register = 0; register < 10; register++) {
            for (int i = 1; i <= oracle.n; i++) {
                if (registers[register][i].signum() != 0) {
                    Check.due("set", x.set(register, i, registers[register][i].intValueExact()), true);
                }
            }
        }
        return x;
    }

    private static int check(HallRegisters x, Oracle oracle, BigInteger[][] registers, String text) {
        if (text.length() > 200) {
            return 0;
        }
        int over = x.look(8);
        try {
            BigInteger[] want = new Words(oracle, registers, text).all();
            Check.due("text '" + text + "'", Check.read(x, 9, text), 0);
            for (int i = 1; i <= oracle.n; i++) {
                Check.due("text '" + text + "' exponent " + i, x.exponent(9, i), want[i].intValueExact());
            }
            registers[9] = want;
            return 0;
        } catch (Words.Fault fault) {
            Check.due("text '" + text + "' with n " + oracle.n, Check.read(x, 9, text), fault.told);
            Check.due("look(8)", x.look(8), over + (fault.told / 1000 == 5 ? 1 : 0));
            return fault.told / 1000;
        }
    }
}
