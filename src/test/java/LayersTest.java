import java.math.BigInteger;
import java.util.ArrayList;
import java.util.Arrays;
import java.util.List;
import java.util.Random;

/** Promises 25 (MADE) and 27 (ALIKE) against other ways of finding out, in random groups. */
public final class LayersTest {
    private static HallRegisters x;
    private static Oracle oracle;
    private static Random random;
    private static int alike;
    private static int unlike;
    private static int unknown;
    private static int made;

    private LayersTest() {
    }

    public static void main(String[] args) {
        int groups = args.length > 0 ? Integer.parseInt(args[0]) : 150;
        int seed = args.length > 1 ? Integer.parseInt(args[1]) : 1;
        for (int group = 0; group < groups && Check.wrong() < 20; group++) {
            random = new Random(seed * 7000003L + group);
            oracle = Oracle.random(random);
            if (oracle.consistent()) {
                oracle.findTerms();
                x = new HallRegisters();
                oracle.tell(x);
                checkMade();
                checkAlike(30);
                checkMoved();
            }
        }
        System.out.println(made + " made; " + alike + " alike, " + unlike + " not, " + unknown + " unknown");
        Check.finish("LayersTest");
    }

    private static void tell(int register, BigInteger[] row) {
        for (int i = 1; i <= oracle.n; i++) {
            Check.due("set", x.set(register, i, row[i].intValueExact()), true);
        }
    }

    private static BigInteger[] randomRow(int from, int greatest) {
        BigInteger[] row = oracle.one();
        for (int i = from; i <= oracle.n; i++) {
            row[i] = BigInteger.valueOf(random.nextInt(2 * greatest + 1) - greatest);
        }
        return row;
    }

    private static void checkMade() {
        List<long[]> tails = new ArrayList<>();
        for (int j = 2; j <= oracle.n; j++) {
            for (int i = 1; i < j; i++) {
                long[] row = new long[oracle.n];
                for (int k = j + 1; k <= oracle.n; k++) {
                    row[k - 1] = oracle.tail[j][i][k];
                }
                if (!Arrays.equals(row, new long[oracle.n])) {
                    tails.add(row);
                }
            }
        }
        for (int round = 0; round < 4; round++) {
            BigInteger[] row = randomRow(1 + random.nextInt(oracle.n), 4);
            boolean sure = round == 3;
            if (sure) {
                row = oracle.one();
                for (int factor = 0; factor < 3; factor++) {
                    row = oracle.product(row, oracle.commutator(randomRow(1, 2), randomRow(1, 2)));
                }
            }
            if (!Oracle.within(row)) {
                continue;
            }
            tell(0, row);
            int least = 0;
            for (int m = 1; m <= 99 && least == 0; m++) {
                BigInteger[] power = oracle.power(row, m);
                long[] numbers = new long[oracle.n];
                for (int i = 1; i <= oracle.n; i++) {
                    numbers[i - 1] = power[i].longValueExact();
                }
                least = Minors.makes(tails, numbers) ? m : 0;
                if (least == 0 && power[1].signum() != 0) {
                    break;
                }
            }
            made += least > 0 ? 1 : 0;
            Check.due("register(0, 6) of " + Arrays.toString(row), x.register(0, 6), least == 1 ? 1 : 0);
            Check.due("register(0, 7) of " + Arrays.toString(row), x.register(0, 7), least);
            if (sure) {
                Check.due("a product of commutators is made", x.register(0, 6), 1);
            }
        }
    }

    /** By all rows of weight 1 in a box; what weight 2 then moves is a lattice. */
    private static void checkAlike(int box) {
        for (int round = 0; round < 6; round++) {
            BigInteger[] a = randomRow(1, 1 + random.nextInt(3));
            BigInteger[] y = random.nextBoolean() ? oracle.conjugate(a, randomRow(1, 2)) : a.clone();
            for (int i = 1; i <= oracle.n; i++) {
                if (random.nextInt(3) == 0 && (oracle.weight[i] > 1 || random.nextInt(20) == 0)) {
                    y[i] = y[i].add(BigInteger.valueOf(random.nextInt(5) - 2));
                }
            }
            if (beyondThirty(y)) {
                continue;
            }
            tell(0, a);
            tell(1, y);
            int told = x.alike(0, 1);
            boolean found = foundInBox(a, y, box) || (told == 1 && foundInBox(a, y, 3 * box));
            if (told == 1 && !found) {
                unknown++;
                System.out.println("unknown: " + Arrays.toString(a) + " " + Arrays.toString(y) + " weights "
                    + Arrays.toString(oracle.weight));
            } else {
                Check.due("alike of " + Arrays.toString(a) + " and " + Arrays.toString(y), told, found ? 1 : 0);
            }
            alike += found ? 1 : 0;
            unlike += found ? 0 : 1;
        }
    }

    private static boolean beyondThirty(BigInteger[] row) {
        for (int i = 1; i <= oracle.n; i++) {
            if (row[i].abs().intValueExact() > 30) {
                return true;
            }
        }
        return false;
    }

    private static int count(int weight) {
        int found = 0;
        for (int i = 1; i <= oracle.n; i++) {
            found += oracle.weight[i] == weight ? 1 : 0;
        }
        return found;
    }

    private static boolean foundInBox(BigInteger[] a, BigInteger[] y, int greatest) {
        int ones = count(1);
        int box = ones > 3 ? greatest / 10 : ones == 3 ? greatest / 3 : greatest;
        BigInteger[] u = oracle.one();
        for (int i = 1; i <= ones; i++) {
            if (!a[i].equals(y[i])) {
                return false;
            }
            u[i] = BigInteger.valueOf(-box);
        }
        while (true) {
            if (fits(a, y, u)) {
                return true;
            }
            int i = ones;
            while (i >= 1 && u[i].intValue() == box) {
                u[i] = BigInteger.valueOf(-box);
                i--;
            }
            if (i < 1) {
                return false;
            }
            u[i] = u[i].add(BigInteger.ONE);
        }
    }

    private static long gap(int k, BigInteger[] a, BigInteger[] y, BigInteger[] u) {
        return oracle.at(k, a, u).subtract(oracle.at(k, u, y)).longValueExact();
    }

    private static boolean fits(BigInteger[] a, BigInteger[] y, BigInteger[] u) {
        int ones = count(1);
        int twos = count(2);
        for (int k = 1; k <= ones + twos; k++) {
            if (gap(k, a, y, u) != 0) {
                return false;
            }
        }
        long[] rest = new long[oracle.n - ones - twos];
        for (int k = 0; k < rest.length; k++) {
            rest[k] = gap(ones + twos + 1 + k, a, y, u);
        }
        List<long[]> moves = new ArrayList<>();
        for (int i = ones + 1; i <= ones + twos; i++) {
            BigInteger[] moved = u.clone();
            moved[i] = BigInteger.ONE;
            long[] move = new long[rest.length];
            for (int k = 0; k < rest.length; k++) {
                move[k] = gap(ones + twos + 1 + k, a, y, moved) - rest[k];
            }
            moves.add(move);
        }
        return Minors.makes(moves, rest);
    }

    /** A long way of conjugations, each by little, always back to small exponents, ends at one that is alike. */
    private static void checkMoved() {
        BigInteger[] a = randomRow(1, 30);
        BigInteger[] y = oracle.conjugate(a, randomRow(1, 1000000));
        for (int step = 0; step < 400 && tooLarge(y); step++) {
            BigInteger[] best = y;
            for (int i = 1; i <= oracle.n; i++) {
                for (int times = -1; times <= 1; times += 2) {
                    BigInteger factor = BigInteger.valueOf(times).shiftLeft(random.nextInt(30));
                    BigInteger[] u = oracle.one();
                    u[i] = factor;
                    BigInteger[] next = oracle.conjugate(y, u);
                    best = isLess(next, best) ? next : best;
                }
            }
            y = best;
        }
        if (!tooLarge(y)) {
            tell(0, a);
            tell(1, y);
            Check.due("alike after a long way of " + Arrays.toString(a) + Arrays.toString(y), x.alike(0, 1), 1);
            alike++;
        }
    }

    private static boolean tooLarge(BigInteger[] row) {
        for (int i = 1; i <= oracle.n; i++) {
            if (row[i].abs().compareTo(BigInteger.valueOf(30)) > 0) {
                return true;
            }
        }
        return false;
    }

    /** By weight 2 first: weight 3 is made small only when that is so. */
    private static boolean isLess(BigInteger[] a, BigInteger[] b) {
        for (int weight = 2; weight <= 3; weight++) {
            BigInteger first = BigInteger.ZERO;
            BigInteger second = BigInteger.ZERO;
            for (int i = 1; i <= oracle.n; i++) {
                if (oracle.weight[i] == weight) {
                    first = first.add(a[i].abs());
                    second = second.add(b[i].abs());
                }
            }
            if (!first.equals(second)) {
                return first.compareTo(second) < 0;
            }
        }
        return false;
    }
}
