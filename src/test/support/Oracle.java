import java.math.BigInteger;
import java.util.ArrayList;
import java.util.Arrays;
import java.util.HashSet;
import java.util.List;
import java.util.Random;
import java.util.Set;
import java.util.TreeMap;

/** The document's words taken literally, slowly, with whole numbers without bounds. Generators count from 1 here. */
final class Oracle {
    final int n;
    final int[] weight;
    final int[][][] tail;
    /** For each k the terms by their rows (d 1 .. d n e 1 .. e n as text, so that they stand in their order). */
    final List<TreeMap<String, BigInteger>> terms = new ArrayList<>();

    Oracle(int n, int[] weight, int[][][] tail) {
        this.n = n;
        this.weight = weight;
        this.tail = tail;
    }

    /** A random group; consistent ones are far from rare. */
    static Oracle random(Random random) {
        int n = 1 + random.nextInt(6);
        int[] weight = new int[n + 1];
        for (int i = 1; i <= n; i++) {
            weight[i] = random.nextInt(8) == 0 ? 1 + random.nextInt(3) : 1 + Math.min(2, random.nextInt(5) / 2);
        }
        Arrays.sort(weight, 1, n + 1);
        int[][][] tail = new int[n + 1][n + 1][n + 1];
        int often = 1 + random.nextInt(4);
        for (int j = 2; j <= n; j++) {
            for (int i = 1; i < j; i++) {
                for (int k = j + 1; k <= n; k++) {
                    if (weight[k] >= weight[i] + weight[j] && random.nextInt(often + 1) != 0) {
                        tail[j][i][k] = random.nextInt(4);
                    }
                }
            }
        }
        return new Oracle(n, weight, tail);
    }

    /** Makes the group in an object: how many calls that took. */
    int tell(HallRegisters x) {
        int packed = 0;
        for (int i = n; i >= 1; i--) {
            packed = packed * 4 + weight[i];
        }
        int calls = 1;
        Check.due("group(" + n + ", " + packed + ")", x.group(n, packed), true);
        for (int j = 2; j <= n; j++) {
            for (int i = 1; i < j; i++) {
                for (int k = j + 1; k <= n; k++) {
                    if (tail[j][i][k] != 0) {
                        calls++;
                        Check.due("tail(" + j + "," + i + "," + k + ")", x.tail(j, i, k, tail[j][i][k]), true);
                    }
                }
            }
        }
        return calls;
    }

    int top() {
        return weight[n];
    }

    /** Collects a word where it stands: how many exchanges. */
    int collect(List<Integer> word) {
        int exchanges = 0;
        while (true) {
            int place = 0;
            while (place + 1 < word.size() && word.get(place) <= word.get(place + 1)) {
                place++;
            }
            if (place + 1 >= word.size()) {
                return exchanges;
            }
            exchange(word, place);
            exchanges++;
        }
    }

    private void exchange(List<Integer> word, int place) {
        int j = word.get(place);
        int i = word.get(place + 1);
        word.set(place, i);
        word.set(place + 1, j);
        int behind = place + 2;
        for (int k = j + 1; k <= n; k++) {
            for (int t = 0; t < tail[j][i][k]; t++) {
                word.add(behind++, k);
            }
        }
    }

    int[] count(List<Integer> word) {
        int[] row = new int[n + 1];
        for (int letter : word) {
            row[letter]++;
        }
        return row;
    }

    boolean consistent() {
        for (int k = 3; k <= n; k++) {
            for (int j = 2; j < k; j++) {
                for (int i = 1; i < j; i++) {
                    List<Integer> first = new ArrayList<>(List.of(k, j, i));
                    List<Integer> last = new ArrayList<>(List.of(k, j, i));
                    exchange(first, 0);
                    exchange(last, 1);
                    collect(first);
                    collect(last);
                    if (!first.equals(last)) {
                        return false;
                    }
                }
            }
        }
        return true;
    }

    int[] collectedFrom(int[] exponents) {
        List<Integer> word = new ArrayList<>();
        for (int s = 0; s < 2 * n; s++) {
            for (int letter = 0; letter < exponents[s]; letter++) {
                word.add(s % n + 1);
            }
        }
        collect(word);
        return count(word);
    }

    /** Finds the terms as alternating sums over all lesser rows. */
    void findTerms() {
        terms.clear();
        for (int k = 0; k <= n; k++) {
            terms.add(new TreeMap<>());
        }
        findTerms(new int[2 * n], 0, 0);
    }

    private void findTerms(int[] row, int from, int heavy) {
        if (from == 2 * n) {
            BigInteger[] numbers = new BigInteger[n + 1];
            Arrays.fill(numbers, BigInteger.ZERO);
            alternate(row, new int[2 * n], 0, BigInteger.ONE, numbers);
            for (int k = 1; k <= n; k++) {
                if (weight[k] >= heavy && numbers[k].signum() != 0) {
                    terms.get(k).put(text(row), numbers[k]);
                }
            }
            return;
        }
        int w = weight[from % n + 1];
        for (int d = 0; heavy + d * w <= top(); d++) {
            row[from] = d;
            findTerms(row, from + 1, heavy + d * w);
        }
        row[from] = 0;
    }

    private void alternate(int[] row, int[] lesser, int from, BigInteger factor, BigInteger[] numbers) {
        if (from == 2 * n) {
            int[] counts = collectedFrom(lesser);
            for (int k = 1; k <= n; k++) {
                numbers[k] = numbers[k].add(factor.multiply(BigInteger.valueOf(counts[k])));
            }
            return;
        }
        for (int d = 0; d <= row[from]; d++) {
            lesser[from] = d;
            BigInteger choose = over(BigInteger.valueOf(row[from]), d);
            alternate(row, lesser, from + 1,
                (row[from] - d) % 2 == 0 ? factor.multiply(choose) : factor.multiply(choose).negate(), numbers);
        }
        lesser[from] = 0;
    }

    private static String text(int[] row) {
        StringBuilder text = new StringBuilder();
        for (int d : row) {
            text.append(d);
        }
        return text.toString();
    }

    static BigInteger over(BigInteger x, int d) {
        BigInteger product = BigInteger.ONE;
        for (int f = 0; f < d; f++) {
            product = product.multiply(x.subtract(BigInteger.valueOf(f)));
        }
        for (int f = 2; f <= d; f++) {
            product = product.divide(BigInteger.valueOf(f));
        }
        return product;
    }

    BigInteger at(int k, BigInteger[] a, BigInteger[] b) {
        BigInteger sum = BigInteger.ZERO;
        for (var term : terms.get(k).entrySet()) {
            BigInteger product = term.getValue();
            for (int s = 0; s < 2 * n && product.signum() != 0; s++) {
                int degree = term.getKey().charAt(s) - '0';
                if (degree > 0) {
                    product = product.multiply(over(s < n ? a[s + 1] : b[s - n + 1], degree));
                }
            }
            sum = sum.add(product);
        }
        return sum;
    }

    BigInteger[] one() {
        BigInteger[] row = new BigInteger[n + 1];
        Arrays.fill(row, BigInteger.ZERO);
        return row;
    }

    BigInteger[] generator(int i, int exponent) {
        BigInteger[] row = one();
        row[i] = BigInteger.valueOf(exponent);
        return row;
    }

    BigInteger[] product(BigInteger[] a, BigInteger[] b) {
        BigInteger[] row = one();
        for (int k = 1; k <= n; k++) {
            row[k] = at(k, a, b);
        }
        return row;
    }

    BigInteger[] inverse(BigInteger[] a) {
        BigInteger[] row = one();
        for (int k = 1; k <= n; k++) {
            row[k] = row[k].subtract(product(a, row)[k]);
        }
        return row;
    }

    BigInteger[] power(BigInteger[] a, int m) {
        BigInteger[] base = m < 0 ? inverse(a) : a;
        BigInteger[] row = one();
        for (int times = 0; times < Math.abs(m); times++) {
            row = product(row, base);
        }
        return row;
    }

    BigInteger[] commutator(BigInteger[] a, BigInteger[] b) {
        return product(product(product(inverse(a), inverse(b)), a), b);
    }

    BigInteger[] conjugate(BigInteger[] a, BigInteger[] u) {
        return product(product(inverse(u), a), u);
    }

    /** The root as a row without bounds, or null. */
    BigInteger[] root(BigInteger[] a, int m) {
        BigInteger[] row = one();
        for (int k = 1; k <= n; k++) {
            BigInteger[] split = a[k].subtract(power(row, m)[k]).divideAndRemainder(BigInteger.valueOf(m));
            if (split[1].signum() != 0) {
                return null;
            }
            row[k] = split[0];
        }
        return row;
    }

    static boolean within(BigInteger[] row) {
        for (int k = 1; k < row.length; k++) {
            if (row[k].abs().compareTo(BigInteger.valueOf(999)) > 0) {
                return false;
            }
        }
        return true;
    }

    int layer(BigInteger[] row) {
        for (int k = 1; k <= n; k++) {
            if (row[k].signum() != 0) {
                return weight[k];
            }
        }
        return top() + 1;
    }

    boolean central(BigInteger[] row) {
        for (int i = 1; i <= n; i++) {
            if (!Arrays.equals(product(row, generator(i, 1)), product(generator(i, 1), row))) {
                return false;
            }
        }
        return true;
    }

    /** The first u within a bound in the document's order, or null. */
    BigInteger[] sought(BigInteger[] a, BigInteger[] y, int bound) {
        int free = 0;
        while (free < n && weight[free + 1] < top()) {
            free++;
        }
        BigInteger[] u = one();
        for (int i = 1; i <= free; i++) {
            u[i] = BigInteger.valueOf(-bound);
        }
        while (true) {
            if (Arrays.equals(product(a, u), product(u, y))) {
                return u;
            }
            int i = free;
            while (i >= 1 && u[i].intValue() == bound) {
                u[i] = BigInteger.valueOf(-bound);
                i--;
            }
            if (i < 1) {
                return null;
            }
            u[i] = u[i].add(BigInteger.ONE);
        }
    }

    /** The balls' elements by the least length, up to a size. */
    List<Set<List<BigInteger>>> balls(int longest, int most) {
        List<Set<List<BigInteger>>> balls = new ArrayList<>();
        Set<List<BigInteger>> ball = new HashSet<>();
        ball.add(Arrays.asList(one()));
        balls.add(ball);
        for (int l = 1; l <= longest && ball.size() <= most; l++) {
            Set<List<BigInteger>> next = new HashSet<>(ball);
            for (List<BigInteger> row : ball) {
                for (int i = 1; i <= n; i++) {
                    if (weight[i] == 1) {
                        BigInteger[] from = row.toArray(new BigInteger[0]);
                        next.add(Arrays.asList(product(from, generator(i, 1))));
                        next.add(Arrays.asList(product(from, inverse(generator(i, 1)))));
                    }
                }
            }
            ball = next;
            balls.add(ball);
        }
        return balls;
    }
}
