import java.math.BigInteger;
import java.util.ArrayList;
import java.util.Arrays;
import java.util.List;
import java.util.Random;

/** Promises 1 to 12, 17 to 26, 28 to 31: random groups and elements against the document taken literally. */
public final class RandomTest {
    private static HallRegisters x;
    private static Oracle oracle;
    private static Random random;
    private static final BigInteger[][] rows = new BigInteger[4][];
    private static int over;

    private RandomTest() {
    }

    public static void main(String[] args) {
        int groups = args.length > 0 ? Integer.parseInt(args[0]) : 400;
        int seed = args.length > 1 ? Integer.parseInt(args[1]) : 1;
        int consistent = 0;
        for (int group = 0; group < groups && Check.wrong() < 20; group++) {
            random = new Random(seed * 1000003L + group);
            oracle = Oracle.random(random);
            begin();
            checkGroup();
            checkCollecting();
            if (oracle.consistent()) {
                consistent++;
                oracle.findTerms();
                checkTerms();
                for (int round = 0; round < 4; round++) {
                    begin();
                    checkElements(new int[] {2, 9, 40, 999}[round]);
                }
                begin();
                checkBalls();
            }
        }
        System.out.println(consistent + " of " + groups + " groups were consistent");
        Check.finish("RandomTest");
    }

    /** A new object for each round, since nothing is promised of one behind its 512th call. */
    private static void begin() {
        x = new HallRegisters();
        over = 0;
        oracle.tell(x);
    }

    private static void checkGroup() {
        Check.due("look(0)", x.look(0), oracle.n);
        Check.due("look(1)", x.look(1), oracle.top());
        Check.due("consistent()", x.consistent(), oracle.consistent() ? 1 : 0);
        int i = 1 + random.nextInt(oracle.n);
        Check.due("generator(" + i + ", 0)", x.generator(i, 0), oracle.weight[i]);
    }

    private static void checkCollecting() {
        for (int round = 0; round < 3; round++) {
            List<Integer> word = new ArrayList<>();
            StringBuilder text = new StringBuilder();
            int length = random.nextInt(round == 2 ? 25 : 9);
            for (int p = 0; p < length; p++) {
                int letter = 1 + random.nextInt(oracle.n);
                word.add(letter);
                text.append((char) ('a' + letter - 1));
            }
            int[] before = new int[oracle.n + 1];
            for (int i = 1; i <= oracle.n; i++) {
                before[i] = x.collected(i);
            }
            int exchanges = oracle.collect(word);
            int[] after = exchanges > 1000 ? before : oracle.count(word);
            Check.due("collect() of " + text, Check.collect(x, text.toString()), exchanges > 1000 ? -2 : exchanges);
            for (int i = 1; i <= oracle.n; i++) {
                Check.due("collected(" + i + ") of " + text, x.collected(i), after[i]);
            }
        }
    }

    private static void checkTerms() {
        int all = 0;
        for (int k = 1; k <= oracle.n; k++) {
            int t = 0;
            Check.due("terms(" + k + ")", x.terms(k), oracle.terms.get(k).size());
            int degree = 0;
            int heavy = 0;
            int twice = 0;
            BigInteger sum = BigInteger.ZERO;
            for (var term : oracle.terms.get(k).entrySet()) {
                Check.due("term(" + k + ", " + t + ", 0)", x.term(k, t, 0), term.getValue().intValueExact());
                int degrees = 0;
                int weights = 0;
                boolean both = false;
                for (int s = 0; s < 2 * oracle.n; s++) {
                    int d = term.getKey().charAt(s) - '0';
                    if (random.nextInt(4) == 0) {
                        Check.due("term(" + k + ", " + t + ", " + (s + 1) + ")", x.term(k, t, s + 1), d);
                    }
                    degrees += d;
                    weights += d * oracle.weight[s % oracle.n + 1];
                    both |= s < oracle.n && d > 0 && term.getKey().charAt(s + oracle.n) > '0';
                }
                degree = Math.max(degree, degrees);
                heavy = Math.max(heavy, weights);
                twice += both ? 1 : 0;
                sum = sum.add(term.getValue());
                t++;
            }
            all += t;
            Check.due("shape(" + k + ", 0)", x.shape(k, 0), degree);
            Check.due("shape(" + k + ", 1)", x.shape(k, 1), heavy);
            Check.due("shape(" + k + ", 2)", x.shape(k, 2), twice);
            Check.due("shape(" + k + ", 3)", x.shape(k, 3), sum.intValueExact());
        }
        Check.due("look(4)", x.look(4), all);
        checkCollected();
    }

    /** The polynomials tell any row's collecting, not just that of the few rows which they were found by. */
    private static void checkCollected() {
        int[] exponents = new int[2 * oracle.n];
        BigInteger[] a = oracle.one();
        BigInteger[] b = oracle.one();
        for (int s = 0; s < exponents.length; s++) {
            exponents[s] = random.nextInt(4);
            (s < oracle.n ? a : b)[s % oracle.n + 1] = BigInteger.valueOf(exponents[s]);
        }
        int[] counts = oracle.collectedFrom(exponents);
        BigInteger[] told = oracle.product(a, b);
        for (int k = 1; k <= oracle.n; k++) {
            Check.due("polynomial " + k + " at " + Arrays.toString(exponents), told[k].intValueExact(), counts[k]);
        }
    }

    private static void checkElements(int greatest) {
        for (int register = 0; register < 4; register++) {
            rows[register] = oracle.one();
            int zeros = random.nextInt(oracle.n + 1);
            for (int i = 1; i <= oracle.n; i++) {
                int v = i <= zeros && random.nextBoolean() ? 0 : random.nextInt(2 * greatest + 1) - greatest;
                if (greatest == 999 && random.nextInt(3) == 0) {
                    v = random.nextBoolean() ? 999 : -999;
                }
                rows[register][i] = BigInteger.valueOf(v);
                Check.due("set", x.set(register, i, v), true);
            }
        }
        int m = random.nextInt(199) - 99;
        int small = random.nextInt(7) - 3;
        made("multiply", x.multiply(5, 0, 1), 5, oracle.product(rows[0], rows[1]), true);
        made("multiply itself", x.multiply(5, 0, 0), 5, oracle.product(rows[0], rows[0]), true);
        made("invert", x.invert(5, 0), 5, oracle.inverse(rows[0]), true);
        made("power " + m, x.power(5, 0, m), 5, oracle.power(rows[0], m), true);
        made("power " + small, x.power(5, 0, small), 5, oracle.power(rows[0], small), true);
        made("commute", x.commute(5, 0, 1), 5, oracle.commutator(rows[0], rows[1]), true);
        made("conjugate", x.conjugate(5, 0, 1), 5, oracle.conjugate(rows[0], rows[1]), true);
        checkRoots();
        checkTold();
        checkPowers();
        Check.due("associates", x.associates(0, 1, 2), 1);
        for (int bound = 1; bound <= 3; bound++) {
            checkSought(bound);
        }
        Check.due("look(8)", x.look(8), over);
    }

    private static void made(String call, boolean got, int register, BigInteger[] want, boolean counted) {
        boolean fits = want != null && Oracle.within(want);
        over += counted && !fits ? 1 : 0;
        Check.due(call, got, fits);
        for (int k = 1; fits && k <= oracle.n; k++) {
            Check.due(call + " of " + Arrays.toString(rows[0]) + ", exponent " + k,
                x.exponent(register, k), want[k].intValueExact());
        }
    }

    private static void checkRoots() {
        int m = 1 + random.nextInt(12);
        made("root " + m, x.root(5, 0, m), 5, oracle.root(rows[0], m), false);
        BigInteger[] power = oracle.power(rows[1], m);
        if (Oracle.within(power)) {
            Check.due("power", x.power(6, 1, m), true);
            made("root of a power " + m, x.root(6, 6, m), 6, rows[1], false);
            Check.due("power", x.power(6, 1, m), true);
            int greatest = 0;
            for (int r = 1; r <= 99; r++) {
                BigInteger[] root = oracle.root(power, r);
                greatest = root != null && Oracle.within(root) ? r : greatest;
            }
            Check.due("register(6, 4)", x.register(6, 4), greatest);
        }
    }

    private static void checkTold() {
        BigInteger[] commutator = oracle.commutator(rows[0], rows[1]);
        Check.due("register(0, 0)", x.register(0, 0), oracle.layer(rows[0]));
        Check.due("register(0, 1)", x.register(0, 1), oracle.central(rows[0]) ? 1 : 0);
        boolean one = Arrays.equals(rows[0], oracle.one());
        Check.due("register(0, 2)", x.register(0, 2), one ? 1 : 0);
        Check.due("both(0, 1, 0)", x.both(0, 1, 0), Arrays.equals(commutator, oracle.one()) ? 1 : 0);
        Check.due("both(0, 1, 1)", x.both(0, 1, 1), oracle.layer(commutator));
        int differ = 0;
        for (int i = oracle.n; i >= 1; i--) {
            differ = rows[0][i].equals(rows[1][i]) ? differ : i;
        }
        Check.due("both(0, 1, 2)", x.both(0, 1, 2), differ);
        int i = 1 + random.nextInt(oracle.n);
        Check.due("generator(" + i + ", 1)", x.generator(i, 1), oracle.central(oracle.generator(i, 1)) ? 1 : 0);
    }

    private static void checkPowers() {
        for (int k = 1; k <= oracle.n; k++) {
            int m = random.nextInt(30) - 15;
            BigInteger sum = BigInteger.ZERO;
            for (int i = 0; i <= 3; i++) {
                BigInteger number = BigInteger.valueOf(x.powers(0, k, i));
                sum = sum.add(number.multiply(Oracle.over(BigInteger.valueOf(m), i)));
            }
            Check.due("powers() at " + m, sum.equals(oracle.power(rows[0], m)[k]), true);
        }
    }

    private static void checkSought(int bound) {
        if (random.nextBoolean()) {
            BigInteger[] u = oracle.one();
            for (int i = 1; i <= oracle.n; i++) {
                u[i] = BigInteger.valueOf(random.nextInt(2 * bound + 1) - bound);
            }
            BigInteger[] y = oracle.conjugate(rows[0], u);
            if (Oracle.within(y)) {
                rows[2] = y;
                for (int i = 1; i <= oracle.n; i++) {
                    Check.due("set", x.set(2, i, y[i].intValueExact()), true);
                }
            }
        }
        BigInteger[] sought = oracle.sought(rows[0], rows[2], bound);
        made("seek " + bound, x.seek(5, 0, 2, bound), 5, sought, false);
        if (sought != null) {
            int alike = x.alike(0, 2);
            Check.due("alike(0, 2) of conjugates", alike == 1 || alike == -2, true);
        }
    }

    private static void checkBalls() {
        var balls = oracle.balls(4, 1000);
        for (int l = 0; l <= 4; l++) {
            boolean told = l < balls.size() && balls.get(l).size() <= 1000;
            Check.due("ball(" + l + ")", x.ball(l), told ? balls.get(l).size() : -1);
        }
        for (int register = 0; register < 3; register++) {
            BigInteger[] row = oracle.one();
            for (int factor = random.nextInt(6); factor > 0; factor--) {
                int i = 1 + random.nextInt(oracle.n);
                if (oracle.weight[i] == 1 || random.nextInt(9) == 0) {
                    row = oracle.product(row, oracle.generator(i, random.nextBoolean() ? 1 : -1));
                }
            }
            for (int i = 1; i <= oracle.n; i++) {
                Check.due("set", x.set(register, i, row[i].intValueExact()), true);
            }
            int level = -1;
            for (int l = balls.size() - 1; l >= 0; l--) {
                if (balls.get(l).size() > 1000) {
                    level = -1;
                } else if (balls.get(l).contains(Arrays.asList(row))) {
                    level = l;
                }
            }
            Check.due("register(" + register + ", 3)", x.register(register, 3), level);
        }
    }
}
