import java.math.BigInteger;
import java.util.ArrayDeque;
import java.util.ArrayList;
import java.util.Arrays;
import java.util.Deque;
import java.util.IdentityHashMap;
import java.util.List;
import java.util.Map;
import java.util.Set;

/** A whole object, taken literally from the document: what each call answers, whatever calls there were ahead of it. */
final class Model {
    private static final int NONE = -1;
    private static final long NO_NUMBER = NONE - 9999;
    private static final int[][] KIND_WEIGHTS = {{1, 1, 2}, {1, 1, 2, 3, 3}, {1, 1, 1, 2, 2, 3}, {1, 1, 1, 1, 1, 1}};
    private static final String[] KIND_TAILS = {"213", "213 314 325", "314 325 426 516", ""};

    /** What acts change. */
    private record Kept(Oracle group, BigInteger[][] registers) {
    }

    private Oracle group;
    private BigInteger[][] registers;
    private final Deque<Kept> acts = new ArrayDeque<>();
    private Kept image = null;
    private int imageOver = 0;
    private int[] imageCollected = null;
    private int over = 0;
    private int[] collected = null;
    private final StringBuilder tape = new StringBuilder();
    private int fault = 0;
    private int place = NONE;
    private final Map<Oracle, Boolean> consistent = new IdentityHashMap<>();
    private final Map<Oracle, List<Set<List<BigInteger>>>> balls = new IdentityHashMap<>();

    Model() {
        take(ofKind(0));
    }

    int n() {
        return group.n;
    }

    /** All j, i, k whose tail may be above 0. */
    List<int[]> tails() {
        List<int[]> all = new ArrayList<>();
        for (int k = 3; k <= group.n; k++) {
            for (int j = 2; j < k; j++) {
                for (int i = 1; i < j; i++) {
                    if (group.weight[k] >= group.weight[i] + group.weight[j]) {
                        all.add(new int[] {j, i, k});
                    }
                }
            }
        }
        return all;
    }

    /** What a call answers, true as 1; null if it can't be told here (alike() of what is not found to be). */
    Long answer(String call, int[] a) {
        switch (call) {
            case "group": return bit(newGroup(a[0], a[1]));
            case "tail": return bit(newTail(a[0], a[1], a[2], a[3]));
            case "kind": return bit(a[0] >= 0 && a[0] <= 3 && act(ofKind(a[0])));
            case "set": return bit(set(a[0], a[1], a[2]));
            case "multiply": return counted(a[0], are(a[0], a[1], a[2]) ? group.product(row(a[1]), row(a[2])) : null);
            case "invert": return counted(a[0], are(a[0], a[1]) ? group.inverse(row(a[1])) : null);
            case "power": return counted(a[0], are(a[0], a[1]) && Math.abs((long) a[2]) <= 99 ? group.power(row(a[1]), a[2]) : null);
            case "commute": return counted(a[0], are(a[0], a[1], a[2]) ? group.commutator(row(a[1]), row(a[2])) : null);
            case "conjugate": return counted(a[0], are(a[0], a[1], a[2]) ? group.conjugate(row(a[1]), row(a[2])) : null);
            case "root": return bit(put(a[0], are(a[0], a[1]) && a[2] >= 1 && a[2] <= 99 ? group.root(row(a[1]), a[2]) : null));
            case "seek": return bit(put(a[0], are(a[0], a[1], a[2]) && a[3] >= 1 && a[3] <= 3
                ? group.sought(row(a[1]), row(a[2]), a[3]) : null));
            case "feed": return feed(a);
            case "end": return bit(end(a[0]));
            case "text": return bit(text(a[0]));
            case "collect": return collect();
            case "undo": return undo();
            case "image": return bit(image(a[0] == 1));
            default: return told(call, a);
        }
    }

    private Long told(String call, int[] a) {
        switch (call) {
            case "fault": return a[0] == 0 ? fault : a[0] == 1 ? place : (long) NONE;
            case "collected": return collected == null || a[0] < 1 || a[0] >= collected.length ? NONE : (long) collected[a[0]];
            case "consistent": return bit(isConsistent());
            case "exponent": return isRegister(a[0]) && isGenerator(a[1]) ? row(a[0])[a[1]].longValueExact() : NO_NUMBER;
            case "generator": return generator(a[0], a[1]);
            case "tailOf": return isTail(a[0], a[1], a[2]) ? group.tail[a[0]][a[1]][a[2]] : (long) NONE;
            case "terms": return hasTerms(a[0]) ? group.terms.get(a[0]).size() : (long) NONE;
            case "term": return term(a[0], a[1], a[2]);
            case "register": return are(a[0]) ? register(row(a[0]), a[1]) : NONE;
            case "both": return are(a[0], a[1]) ? both(row(a[0]), row(a[1]), a[2]) : NONE;
            case "alike": return are(a[0], a[1]) ? alike(row(a[0]), row(a[1])) : Long.valueOf(NONE);
            case "shape": return shape(a[0], a[1]);
            case "powers": return are(a[0]) && isGenerator(a[1]) && a[2] >= 0 && a[2] <= 3 ? powers(row(a[0]), a[1], a[2])
                : NONE - 99999999999999L;
            case "associates": return are(a[0], a[1], a[2]) ? bit(Arrays.equals(
                group.product(group.product(row(a[0]), row(a[1])), row(a[2])),
                group.product(row(a[0]), group.product(row(a[1]), row(a[2]))))) : NONE;
            case "ball": return a[0] < 0 || a[0] > 4 || !isConsistent() ? NONE : ball(a[0]);
            default: return look(a[0]);
        }
    }

    // ---- the group and its acts

    private static long bit(boolean holds) {
        return holds ? 1 : 0;
    }

    private static Oracle empty(int... weights) {
        int n = weights.length;
        int[] from1 = new int[n + 1];
        System.arraycopy(weights, 0, from1, 1, n);
        return new Oracle(n, from1, new int[n + 1][n + 1][n + 1]);
    }

    private static Oracle ofKind(int kind) {
        Oracle made = empty(KIND_WEIGHTS[kind]);
        for (String tail : KIND_TAILS[kind].split(" ")) {
            if (!tail.isEmpty()) {
                made.tail[tail.charAt(0) - '0'][tail.charAt(1) - '0'][tail.charAt(2) - '0'] = 1;
            }
        }
        return made;
    }

    private void take(Oracle next) {
        group = next;
        registers = new BigInteger[10][];
        Arrays.setAll(registers, register -> group.one());
    }

    private void begin() {
        acts.addLast(kept());
        if (acts.size() > 8) {
            acts.removeFirst();
        }
    }

    private Kept kept() {
        return new Kept(group, registers.clone());
    }

    private void back(Kept to) {
        group = to.group();
        registers = to.registers().clone();
    }

    private boolean act(Oracle next) {
        begin();
        take(next);
        return true;
    }

    private boolean newGroup(int n, int packed) {
        if (n < 1 || n > 6 || packed < 0) {
            return false;
        }
        StringBuilder digits = new StringBuilder(Integer.toString(packed, 4)).reverse();
        while (digits.length() < n) {
            digits.append('0');
        }
        int[] weights = new int[n];
        for (int i = 0; i < digits.length(); i++) {
            int digit = digits.charAt(i) - '0';
            if (i >= n ? digit != 0 : digit == 0 || (i > 0 && digit < weights[i - 1])) {
                return false;
            }
            if (i < n) {
                weights[i] = digit;
            }
        }
        return act(empty(weights));
    }

    private boolean isTail(int j, int i, int k) {
        return i >= 1 && j > i && k > j && k <= group.n;
    }

    private boolean newTail(int j, int i, int k, int v) {
        if (!isTail(j, i, k) || v < 0 || v > 3 || (v > 0 && group.weight[k] < group.weight[i] + group.weight[j])) {
            return false;
        }
        Oracle next = empty(Arrays.copyOfRange(group.weight, 1, group.n + 1));
        for (int first = 0; first <= group.n; first++) {
            for (int second = 0; second <= group.n; second++) {
                next.tail[first][second] = group.tail[first][second].clone();
            }
        }
        next.tail[j][i][k] = v;
        return act(next);
    }

    private long undo() {
        if (acts.isEmpty()) {
            return NONE;
        }
        back(acts.removeLast());
        return acts.size();
    }

    private boolean image(boolean taken) {
        if (taken) {
            image = kept();
            imageOver = over;
            imageCollected = collected;
            return true;
        }
        if (image == null) {
            return false;
        }
        back(image);
        over = imageOver;
        collected = imageCollected;
        acts.clear();
        return true;
    }

    // ---- elements

    private boolean isConsistent() {
        boolean is = consistent.computeIfAbsent(group, Oracle::consistent);
        if (is && group.terms.isEmpty()) {
            group.findTerms();
        }
        return is;
    }

    private static boolean isRegister(int register) {
        return register >= 0 && register <= 9;
    }

    private boolean isGenerator(int i) {
        return i >= 1 && i <= group.n;
    }

    private boolean hasTerms(int k) {
        return isConsistent() && isGenerator(k);
    }

    /** Whether these are registers of a group that is consistent. */
    private boolean are(int... these) {
        return isConsistent() && Arrays.stream(these).allMatch(Model::isRegister);
    }

    private BigInteger[] row(int register) {
        return registers[register];
    }

    private boolean set(int register, int i, int v) {
        if (!are(register) || !isGenerator(i) || v < -999 || v > 999) {
            return false;
        }
        BigInteger[] row = row(register).clone();
        row[i] = BigInteger.valueOf(v);
        return put(register, row);
    }

    private boolean put(int register, BigInteger[] row) {
        if (row == null || !Oracle.within(row)) {
            return false;
        }
        begin();
        registers[register] = row;
        return true;
    }

    private long counted(int register, BigInteger[] row) {
        over += row != null && !Oracle.within(row) ? 1 : 0;
        return bit(put(register, row));
    }

    // ---- the tape

    private long feed(int[] numbers) {
        if (tape.length() + 20 > 200) {
            return NONE;
        }
        for (int number : numbers) {
            for (int shift = 24; shift >= 0; shift -= 8) {
                tape.append((char) (number >>> shift & 255));
            }
        }
        return tape.length();
    }

    private boolean end(int n) {
        if (n < 0 || n > tape.length()) {
            return false;
        }
        tape.setLength(n);
        return true;
    }

    private String takeTape() {
        String all = tape.toString();
        tape.setLength(0);
        return all;
    }

    private boolean text(int register) {
        String all = takeTape();
        fault = 0;
        place = NONE;
        if (!are(register)) {
            return false;
        }
        try {
            return put(register, new Words(group, registers, all).all());
        } catch (Words.Fault found) {
            fault = found.told / 1000;
            place = found.told % 1000;
            over += fault == 5 ? 1 : 0;
            return false;
        }
    }

    private long collect() {
        List<Integer> word = new ArrayList<>();
        for (char sign : takeTape().toCharArray()) {
            word.add(sign - 'a' + 1);
        }
        if (word.size() > 24 || !word.stream().allMatch(this::isGenerator)) {
            return NONE;
        }
        int exchanges = group.collect(word);
        if (exchanges > 1000) {
            return NONE - 1;
        }
        collected = group.count(word);
        return exchanges;
    }

    // ---- what is told

    private long generator(int i, int what) {
        if (!isGenerator(i) || what < 0 || what > 1) {
            return NONE;
        }
        return what == 0 ? group.weight[i] : isConsistent() ? bit(group.central(group.generator(i, 1))) : NONE;
    }

    private long term(int k, int t, int what) {
        if (!hasTerms(k) || t < 0 || t >= group.terms.get(k).size() || what < 0 || what > 2 * group.n) {
            return NO_NUMBER;
        }
        var term = new ArrayList<>(group.terms.get(k).entrySet()).get(t);
        return what == 0 ? term.getValue().longValueExact() : term.getKey().charAt(what - 1) - '0';
    }

    private long shape(int k, int what) {
        if (!hasTerms(k) || what < 0 || what > 3) {
            return NO_NUMBER;
        }
        long[] told = new long[4];
        for (var term : group.terms.get(k).entrySet()) {
            int degree = 0;
            int heavy = 0;
            boolean both = false;
            for (int s = 0; s < 2 * group.n; s++) {
                int d = term.getKey().charAt(s) - '0';
                degree += d;
                heavy += d * group.weight[s % group.n + 1];
                both |= s < group.n && d > 0 && term.getKey().charAt(s + group.n) > '0';
            }
            told[0] = Math.max(told[0], degree);
            told[1] = Math.max(told[1], heavy);
            told[2] += bit(both);
            told[3] += term.getValue().longValueExact();
        }
        return told[what];
    }

    private long register(BigInteger[] row, int what) {
        switch (what) {
            case 0: return group.layer(row);
            case 1: return bit(group.central(row));
            case 2: return bit(Arrays.equals(row, group.one()));
            case 3: return shortBy(row);
            case 4: return greatestRoot(row);
            case 5: return set(register -> Arrays.equals(row, registers[register]), 0, 9);
            case 6: return bit(leastMade(row, 1) == 1);
            case 7: return leastMade(row, 99);
            default: return NONE;
        }
    }

    private static long set(java.util.function.IntPredicate has, int from, int to) {
        long set = 0;
        for (int member = from; member <= to; member++) {
            set |= has.test(member) ? 1L << (member - from) : 0;
        }
        return set;
    }

    private long greatestRoot(BigInteger[] row) {
        for (int m = 99; m > 1; m--) {
            BigInteger[] root = group.root(row, m);
            if (root != null && Oracle.within(root)) {
                return m;
            }
        }
        return 1;
    }

    /** Commutators make all sums of the tails' rows; none of them has a generator of weight 1. */
    private long leastMade(BigInteger[] row, int most) {
        List<long[]> tails = new ArrayList<>();
        for (int j = 2; j <= group.n; j++) {
            for (int i = 1; i < j; i++) {
                long[] tail = numbers(group.commutator(group.generator(j, 1), group.generator(i, 1)));
                if (!Arrays.equals(tail, new long[group.n])) {
                    tails.add(tail);
                }
            }
        }
        for (int m = 1; m <= most && group.layer(row) > 1; m++) {
            if (Minors.makes(tails, numbers(group.power(row, m)))) {
                return m;
            }
        }
        return 0;
    }

    private long[] numbers(BigInteger[] row) {
        return Arrays.stream(row, 1, group.n + 1).mapToLong(BigInteger::longValueExact).toArray();
    }

    private long both(BigInteger[] a, BigInteger[] b, int what) {
        switch (what) {
            case 0: return bit(Arrays.equals(group.product(a, b), group.product(b, a)));
            case 1: return group.layer(group.commutator(a, b));
            case 2: return Math.max(0, Arrays.mismatch(a, b));
            default: return NONE;
        }
    }

    private Long alike(BigInteger[] a, BigInteger[] y) {
        for (int i = 1; i <= group.n; i++) {
            if (a[i].abs().max(y[i].abs()).intValueExact() > 30) {
                return NONE - 1L;
            }
        }
        return group.sought(a, y, 1) != null ? 1L : null;
    }

    /** By differences of the powers themselves. */
    private long powers(BigInteger[] row, int k, int i) {
        long[] at = new long[4];
        for (int m = 0; m <= 3; m++) {
            at[m] = group.power(row, m)[k].longValueExact();
        }
        return new long[] {at[0], at[1] - at[0], at[2] - 2 * at[1] + at[0], at[3] - 3 * at[2] + 3 * at[1] - at[0]}[i];
    }

    private List<Set<List<BigInteger>>> allBalls() {
        return balls.computeIfAbsent(group, of -> of.balls(4, 1000));
    }

    private long ball(int l) {
        return l < allBalls().size() && allBalls().get(l).size() <= 1000 ? allBalls().get(l).size() : NONE;
    }

    private long shortBy(BigInteger[] row) {
        for (int l = 0; l <= 4 && ball(l) != NONE; l++) {
            if (allBalls().get(l).contains(Arrays.asList(row))) {
                return l;
            }
        }
        return NONE;
    }

    private long look(int what) {
        switch (what) {
            case 0: return group.n;
            case 1: return group.top();
            case 2: return bit(isConsistent());
            case 3: return tails().stream().filter(tail -> group.tail[tail[0]][tail[1]][tail[2]] > 0).count();
            case 4: return isConsistent() ? group.terms.stream().mapToInt(Map::size).sum() : 0;
            case 5: return set(register -> !Arrays.equals(group.one(), registers[register]), 0, 9);
            case 6: return acts.size();
            case 7: return tape.length();
            case 8: return over;
            case 9: return isConsistent() ? set(i -> group.central(group.generator(i, 1)), 1, group.n) : 0;
            default: return NONE;
        }
    }
}
