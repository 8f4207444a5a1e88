import java.util.Arrays;

/** Groups whose elements are rows of exponents, multiplied by polynomials. README.md tells how to use it. */
public final class HallRegisters {
    public static final int NONE = -1;

    private static final int MOST_GENERATORS = 6;
    private static final int REGISTER_COUNT = 10;
    private static final int GREATEST_EXPONENT = 999;
    private static final int GREATEST_POWER = 99;
    private static final int GREATEST_BOUND = 3;
    private static final int GREATEST_TAIL = 3;
    private static final int GREATEST_ALIKE = 30;
    private static final int TAPE_ROOM = 200;
    private static final int FED_BYTES = 20;
    private static final int MOST_COLLECTED = 24;
    private static final int MOST_EXCHANGES = 1000;
    private static final int MOST_ACTS = 8;
    private static final int NO_NUMBER = NONE - 9999;
    private static final long NO_POWER_NUMBER = NONE - 99999999999999L;

    // Each kind's number of generators and weights as group() takes them; its tails as kind, j, i, k.
    private static final int[] KIND_SIZES = {3, 5, 6, 6};
    private static final int[] KIND_WEIGHTS = {37, 997, 3733, 1365};
    private static final int[] KIND_TAILS = {
        0, 2, 1, 3,
        1, 2, 1, 3, 1, 3, 1, 4, 1, 3, 2, 5,
        2, 3, 1, 4, 2, 3, 2, 5, 2, 4, 2, 6, 2, 5, 1, 6};

    // What the told[] of a State holds: the count of OVER, the letters of the latest collect(), then its row.
    private static final int TOLD_OVER = 0;
    private static final int TOLD_LETTERS = 1;
    private static final int TOLD_ROW = 2;

    // Variables are a 1 .. a 6, then b 1 .. b 6; a table has four places for the binomials of each.
    private static final int VARIABLES = 2 * MOST_GENERATORS;
    private static final int TABLE_ROOM = 64;
    private static final int PLACE_MASK = TABLE_ROOM - 1;
    // Keys have two bits of degree for each variable, the first variable's highest.
    private static final int RIGHT_HALF = 4095;
    private static final int LEFT_HALF = RIGHT_HALF << 12;
    // Twelve variables make 455 products of degree 3 at most.
    private static final int SUM_ROOM = 455;

    private static final int FAULT_BYTE = 1;
    private static final int FAULT_NUMBER = 2;
    private static final int FAULT_LETTER = 3;
    private static final int FAULT_DEPTH = 4;
    private static final int FAULT_OVER = 5;
    private static final int DEEPEST = 8;

    private final State now = new State();
    private final State pictured = new State();
    private boolean imageTaken = false;
    private final State[] acts = new State[MOST_ACTS];
    private int actCount = 0;
    private int nextAct = 0;
    private final int[] tape = new int[TAPE_ROOM];
    private int tapeLength = 0;
    private final Collector collector = new Collector();
    private final Law law = new Law(collector);
    private final Arithmetic arithmetic = new Arithmetic(law);
    private final Search search = new Search(law);
    private final Ball balls = new Ball(law, arithmetic);
    private final Lattice lattice = new Lattice();
    private final Reader reader = new Reader(now, arithmetic);
    private final long[] result = new long[MOST_GENERATORS];
    private final long[] other = new long[MOST_GENERATORS];

    public HallRegisters() {
        for (int act = 0; act < MOST_ACTS; act++) {
            acts[act] = new State();
        }
        now.rules.takeKind(0);
        law.follow(now.rules);
    }

    // ---- the group

    public boolean group(int n, int weights) {
        if (!Rules.areWeights(n, weights)) {
            return false;
        }
        beginGroupAct();
        now.rules.reset(n, weights);
        law.follow(now.rules);
        return true;
    }

    public boolean tail(int j, int i, int k, int v) {
        if (!now.rules.mayBe(j - 1, i - 1, k - 1, v)) {
            return false;
        }
        beginGroupAct();
        now.rules.write(j - 1, i - 1, k - 1, v);
        law.follow(now.rules);
        return true;
    }

    public boolean kind(int kind) {
        if (kind < 0 || kind >= KIND_SIZES.length) {
            return false;
        }
        beginGroupAct();
        now.rules.takeKind(kind);
        law.follow(now.rules);
        return true;
    }

    public int consistent() {
        return bit(law.consistent);
    }

    public int generator(int i, int what) {
        if (!isGenerator(i) || what < 0 || what > 1) {
            return NONE;
        }
        if (what == 0) {
            return now.rules.weights[i - 1];
        }
        return law.consistent ? bit(now.rules.isCentral(i - 1)) : NONE;
    }

    public int tailOf(int j, int i, int k) {
        return now.rules.isTail(j - 1, i - 1, k - 1) ? now.rules.read(j - 1, i - 1, k - 1) : NONE;
    }

    // ---- the polynomials

    public int terms(int k) {
        return hasPolynomial(k) ? law.sums[k - 1].count : NONE;
    }

    public int term(int k, int t, int what) {
        int n = now.rules.count;
        if (!hasPolynomial(k) || what < 0 || what > 2 * n) {
            return NO_NUMBER;
        }
        Sum sum = law.sums[k - 1];
        if (t < 0 || t >= sum.count) {
            return NO_NUMBER;
        }
        if (what == 0) {
            return (int) sum.numbers[t];
        }
        int variable = what <= n ? what - 1 : MOST_GENERATORS + what - n - 1;
        return degree(sum.keys[t], variable);
    }

    public int shape(int k, int what) {
        if (!hasPolynomial(k)) {
            return NO_NUMBER;
        }
        Sum sum = law.sums[k - 1];
        switch (what) {
            case 0: return sum.greatestDegree();
            case 1: return sum.greatestWeight(now.rules);
            case 2: return sum.termsInBothRows();
            case 3: return (int) sum.sumOfNumbers();
            default: return NO_NUMBER;
        }
    }

    // ---- what registers become

    public boolean set(int register, int i, int v) {
        if (!isRegister(register) || !isGenerator(i) || !law.consistent) {
            return false;
        }
        if (v < -GREATEST_EXPONENT || v > GREATEST_EXPONENT) {
            return false;
        }
        beginAct();
        now.registers[register][i - 1] = v;
        return true;
    }

    public boolean multiply(int r, int a, int b) {
        if (!areUsable(r, a) || !isRegister(b)) {
            return false;
        }
        arithmetic.product(result, now.registers[a], now.registers[b]);
        return keepCounted(r);
    }

    public boolean invert(int r, int a) {
        if (!areUsable(r, a)) {
            return false;
        }
        arithmetic.inverse(result, now.registers[a]);
        return keepCounted(r);
    }

    public boolean power(int r, int a, int m) {
        if (!areUsable(r, a) || m < -GREATEST_POWER || m > GREATEST_POWER) {
            return false;
        }
        arithmetic.raise(result, now.registers[a], m);
        return keepCounted(r);
    }

    public boolean commute(int r, int a, int b) {
        if (!areUsable(r, a) || !isRegister(b)) {
            return false;
        }
        arithmetic.commutator(result, now.registers[a], now.registers[b]);
        return keepCounted(r);
    }

    public boolean conjugate(int r, int a, int u) {
        if (!areUsable(r, a) || !isRegister(u)) {
            return false;
        }
        arithmetic.conjugated(result, now.registers[a], now.registers[u]);
        return keepCounted(r);
    }

    public boolean root(int r, int a, int m) {
        if (!areUsable(r, a) || m < 1 || m > GREATEST_POWER) {
            return false;
        }
        return arithmetic.extract(result, now.registers[a], m) && keep(r);
    }

    public boolean seek(int r, int a, int y, int bound) {
        if (!areUsable(r, a) || !isRegister(y) || bound < 1 || bound > GREATEST_BOUND) {
            return false;
        }
        return search.conjugator(result, now.registers[a], now.registers[y], bound) && keep(r);
    }

    // ---- the tape

    public int feed(int a, int b, int c, int d, int e) {
        if (tapeLength > TAPE_ROOM - FED_BYTES) {
            return NONE;
        }
        feedNumber(a);
        feedNumber(b);
        feedNumber(c);
        feedNumber(d);
        feedNumber(e);
        return tapeLength;
    }

    public boolean end(int n) {
        if (n < 0 || n > tapeLength) {
            return false;
        }
        tapeLength = n;
        return true;
    }

    public boolean text(int r) {
        int length = tapeLength;
        tapeLength = 0;
        reader.forget();
        if (!isRegister(r) || !law.consistent) {
            return false;
        }
        if (reader.read(tape, length)) {
            Arithmetic.copy(reader.words[0], result);
            return keep(r);
        }
        if (reader.faultKind == FAULT_OVER) {
            now.told[TOLD_OVER]++;
        }
        return false;
    }

    public int fault(int what) {
        switch (what) {
            case 0: return reader.faultKind;
            case 1: return reader.faultPlace;
            default: return NONE;
        }
    }

    public int collect() {
        int length = tapeLength;
        tapeLength = 0;
        if (length > MOST_COLLECTED) {
            return NONE;
        }
        collector.begin();
        for (int p = 0; p < length; p++) {
            int letter = tape[p] - 'a';
            if (letter < 0 || letter >= now.rules.count) {
                return NONE;
            }
            collector.add(letter);
        }
        int exchanges = collector.run(now.rules, MOST_EXCHANGES);
        if (exchanges == NONE) {
            return NONE - 1;
        }
        now.told[TOLD_LETTERS] = now.rules.count;
        System.arraycopy(collector.counts, 0, now.told, TOLD_ROW, MOST_GENERATORS);
        return exchanges;
    }

    public int collected(int i) {
        if (i < 1 || i > now.told[TOLD_LETTERS] || i > MOST_GENERATORS) {
            return NONE;
        }
        return now.told[TOLD_ROW + i - 1];
    }

    // ---- what is told of registers

    public int exponent(int register, int i) {
        if (!isRegister(register) || !isGenerator(i)) {
            return NO_NUMBER;
        }
        return (int) now.registers[register][i - 1];
    }

    public int register(int register, int what) {
        if (!isRegister(register) || !law.consistent) {
            return NONE;
        }
        long[] row = now.registers[register];
        switch (what) {
            case 0: return layerOf(row);
            case 1: return bit(commutesWithAll(row));
            case 2: return bit(Arithmetic.isOne(row));
            case 3: return balls.levelOf(row);
            case 4: return greatestRoot(row);
            case 5: return sameAs(row);
            case 6: return leastMade(row, 1);
            case 7: return leastMade(row, GREATEST_POWER);
            default: return NONE;
        }
    }

    public int both(int a, int b, int what) {
        if (!areUsable(a, b)) {
            return NONE;
        }
        long[] first = now.registers[a];
        long[] second = now.registers[b];
        switch (what) {
            case 0:
                return bit(arithmetic.doCommute(first, second));
            case 1:
                arithmetic.commutator(result, first, second);
                return layerOf(result);
            case 2:
                return firstDifference(first, second);
            default:
                return NONE;
        }
    }

    public int alike(int a, int y) {
        if (!areUsable(a, y)) {
            return NONE;
        }
        long[] first = now.registers[a];
        long[] second = now.registers[y];
        if (!Arithmetic.isWithin(first, GREATEST_ALIKE) || !Arithmetic.isWithin(second, GREATEST_ALIKE)) {
            return NONE - 1;
        }
        return bit(search.areConjugates(first, second));
    }

    public long powers(int register, int k, int i) {
        if (!isRegister(register) || !isGenerator(k) || i < 0 || i > 3 || !law.consistent) {
            return NO_POWER_NUMBER;
        }
        arithmetic.findPowers(now.registers[register]);
        return arithmetic.powerNumber(k - 1, i);
    }

    public int associates(int a, int b, int c) {
        if (!areUsable(a, b) || !isRegister(c)) {
            return NONE;
        }
        arithmetic.product(result, now.registers[a], now.registers[b]);
        arithmetic.product(result, result, now.registers[c]);
        arithmetic.product(other, now.registers[b], now.registers[c]);
        arithmetic.product(other, now.registers[a], other);
        return bit(Arithmetic.areSame(result, other));
    }

    public int ball(int l) {
        if (l < 0 || l > Ball.LONGEST || !law.consistent) {
            return NONE;
        }
        return balls.sizeOf(l);
    }

    // ---- going back

    public int undo() {
        if (actCount == 0) {
            return NONE;
        }
        actCount--;
        nextAct = (nextAct + MOST_ACTS - 1) % MOST_ACTS;
        now.takeActed(acts[nextAct]);
        law.follow(now.rules);
        return actCount;
    }

    public boolean image(boolean taken) {
        if (taken) {
            pictured.takeAll(now);
            imageTaken = true;
            return true;
        }
        if (!imageTaken) {
            return false;
        }
        now.takeAll(pictured);
        actCount = 0;
        law.follow(now.rules);
        return true;
    }

    public int look(int what) {
        switch (what) {
            case 0: return now.rules.count;
            case 1: return now.rules.top();
            case 2: return bit(law.consistent);
            case 3: return now.rules.tailsAboveZero();
            case 4: return law.termCount();
            case 5: return registersNotOne();
            case 6: return actCount;
            case 7: return tapeLength;
            case 8: return now.told[TOLD_OVER];
            case 9: return law.consistent ? centralGenerators() : 0;
            default: return NONE;
        }
    }

    // ---- helpers

    private static int bit(boolean holds) {
        return holds ? 1 : 0;
    }

    /** The degree of a variable (0 .. 11) in a key. */
    private static int degree(int key, int variable) {
        return (key >> (2 * (VARIABLES - 1 - variable))) & 3;
    }

    private static boolean isRegister(int register) {
        return register >= 0 && register < REGISTER_COUNT;
    }

    private boolean areUsable(int first, int second) {
        return isRegister(first) && isRegister(second) && law.consistent;
    }

    private boolean isGenerator(int i) {
        return i >= 1 && i <= now.rules.count;
    }

    private boolean hasPolynomial(int k) {
        return isGenerator(k) && law.consistent;
    }

    private void beginAct() {
        acts[nextAct].takeActed(now);
        nextAct = (nextAct + 1) % MOST_ACTS;
        actCount = Math.min(actCount + 1, MOST_ACTS);
    }

    private void beginGroupAct() {
        beginAct();
        now.clearRegisters();
    }

    private boolean keep(int r) {
        if (!isRegister(r) || !Arithmetic.isWithin(result, GREATEST_EXPONENT)) {
            return false;
        }
        beginAct();
        Arithmetic.copy(result, now.registers[r]);
        return true;
    }

    private boolean keepCounted(int r) {
        if (!Arithmetic.isWithin(result, GREATEST_EXPONENT)) {
            now.told[TOLD_OVER]++;
            return false;
        }
        return keep(r);
    }

    private void feedNumber(int number) {
        for (int shift = 24; shift >= 0 && tapeLength < TAPE_ROOM; shift -= 8) {
            tape[tapeLength] = (number >> shift) & 255;
            tapeLength++;
        }
    }

    private int layerOf(long[] row) {
        for (int i = 0; i < now.rules.count; i++) {
            if (row[i] != 0) {
                return now.rules.weights[i];
            }
        }
        return now.rules.top() + 1;
    }

    private boolean commutesWithAll(long[] row) {
        for (int i = 0; i < now.rules.count; i++) {
            Arithmetic.makeGenerator(other, i, 1);
            if (!arithmetic.doCommute(row, other)) {
                return false;
            }
        }
        return true;
    }

    private int greatestRoot(long[] row) {
        for (int m = GREATEST_POWER; m > 1; m--) {
            if (arithmetic.extract(result, row, m)) {
                return m;
            }
        }
        return 1;
    }

    private int sameAs(long[] row) {
        int registers = 0;
        for (int register = 0; register < REGISTER_COUNT; register++) {
            if (Arithmetic.areSame(row, now.registers[register])) {
                registers |= 1 << register;
            }
        }
        return registers;
    }

    /** The least of the powers 1 .. most that is a product of commutators; 0 without one. */
    private int leastMade(long[] row, int most) {
        // [G, G] lies in the abelian part of weights above 1, and what conjugating adds to a tail is made of tails.
        lattice.clear(MOST_GENERATORS);
        for (int j = 1; j < now.rules.count; j++) {
            for (int i = 0; i < j; i++) {
                now.rules.copyTails(j, i, result);
                lattice.insert(result);
            }
        }
        for (int m = 1; m <= most; m++) {
            arithmetic.raise(result, row, m);
            if (lattice.reduce(result)) {
                return m;
            }
        }
        return 0;
    }

    private int firstDifference(long[] first, long[] second) {
        for (int i = 0; i < now.rules.count; i++) {
            if (first[i] != second[i]) {
                return i + 1;
            }
        }
        return 0;
    }

    private int registersNotOne() {
        int registers = 0;
        for (int register = 0; register < REGISTER_COUNT; register++) {
            if (!Arithmetic.isOne(now.registers[register])) {
                registers |= 1 << register;
            }
        }
        return registers;
    }

    private int centralGenerators() {
        int generators = 0;
        for (int i = 0; i < now.rules.count; i++) {
            if (now.rules.isCentral(i)) {
                generators |= 1 << i;
            }
        }
        return generators;
    }

    /** The generators' number and weights, and what two of them are when exchanged; generators count from 0 here. */
    private static final class Rules {
        int count = 0;
        final int[] weights = new int[MOST_GENERATORS];
        final int[] tails = new int[MOST_GENERATORS * MOST_GENERATORS * MOST_GENERATORS];

        static boolean areWeights(int n, int packed) {
            if (n < 1 || n > MOST_GENERATORS || packed < 0 || packed >= 1 << (2 * n)) {
                return false;
            }
            int ahead = 1;
            for (int i = 0; i < n; i++) {
                int weight = (packed >> (2 * i)) & 3;
                if (weight < ahead) {
                    return false;
                }
                ahead = weight;
            }
            return true;
        }

        void reset(int n, int packed) {
            count = n;
            for (int i = 0; i < MOST_GENERATORS; i++) {
                weights[i] = (packed >> (2 * i)) & 3;
            }
            Arrays.fill(tails, 0);
        }

        void takeKind(int kind) {
            if (kind < 0 || kind >= KIND_SIZES.length || kind >= KIND_WEIGHTS.length) {
                return;
            }
            reset(KIND_SIZES[kind], KIND_WEIGHTS[kind]);
            for (int t = 0; t + 3 < KIND_TAILS.length; t += 4) {
                if (KIND_TAILS[t] == kind) {
                    write(KIND_TAILS[t + 1] - 1, KIND_TAILS[t + 2] - 1, KIND_TAILS[t + 3] - 1, 1);
                }
            }
        }

        void takeAll(Rules from) {
            count = from.count;
            System.arraycopy(from.weights, 0, weights, 0, weights.length);
            System.arraycopy(from.tails, 0, tails, 0, tails.length);
        }

        boolean isSame(Rules than) {
            if (count != than.count) {
                return false;
            }
            for (int i = 0; i < weights.length; i++) {
                if (weights[i] != than.weights[i]) {
                    return false;
                }
            }
            for (int t = 0; t < tails.length; t++) {
                if (tails[t] != than.tails[t]) {
                    return false;
                }
            }
            return true;
        }

        boolean isTail(int j, int i, int k) {
            return i >= 0 && j > i && k > j && k < count;
        }

        boolean mayBe(int j, int i, int k, int v) {
            if (!isTail(j, i, k) || v < 0 || v > GREATEST_TAIL) {
                return false;
            }
            return v == 0 || weights[k] >= weights[i] + weights[j];
        }

        int read(int j, int i, int k) {
            return isTail(j, i, k) ? tails[(j * MOST_GENERATORS + i) * MOST_GENERATORS + k] : 0;
        }

        void write(int j, int i, int k, int v) {
            if (isTail(j, i, k)) {
                tails[(j * MOST_GENERATORS + i) * MOST_GENERATORS + k] = v;
            }
        }

        void copyTails(int j, int i, long[] row) {
            for (int k = 0; k < MOST_GENERATORS; k++) {
                row[k] = read(j, i, k);
            }
        }

        int top() {
            return count > 0 ? weights[count - 1] : 0;
        }

        int tailsAboveZero() {
            int above = 0;
            for (int t = 0; t < tails.length; t++) {
                above += tails[t] > 0 ? 1 : 0;
            }
            return above;
        }

        boolean isCentral(int i) {
            for (int g = 0; g < count; g++) {
                for (int k = 0; k < count; k++) {
                    if (read(Math.max(g, i), Math.min(g, i), k) != 0) {
                        return false;
                    }
                }
            }
            return true;
        }

        /** How many generators have a weight. */
        int countOf(int weight) {
            int found = 0;
            for (int i = 0; i < count; i++) {
                found += weights[i] == weight ? 1 : 0;
            }
            return found;
        }
    }

    /** All that acts change, and what was told besides. */
    private static final class State {
        final Rules rules = new Rules();
        final long[][] registers = new long[REGISTER_COUNT][MOST_GENERATORS];
        final int[] told = new int[TOLD_ROW + MOST_GENERATORS];

        void clearRegisters() {
            for (int register = 0; register < REGISTER_COUNT; register++) {
                Arrays.fill(registers[register], 0);
            }
        }

        void takeActed(State from) {
            rules.takeAll(from.rules);
            for (int register = 0; register < REGISTER_COUNT; register++) {
                Arithmetic.copy(from.registers[register], registers[register]);
            }
        }

        void takeAll(State from) {
            takeActed(from);
            System.arraycopy(from.told, 0, told, 0, told.length);
        }
    }

    /** Collects a word: sorted is what is ahead of the first wrong place, waiting is the rest, its first letter on top. */
    private static final class Collector {
        static final int WORD_ROOM = 64;
        // An exchange brings four generators' tails at most.
        static final int ROOM = WORD_ROOM + 4 * GREATEST_TAIL * (MOST_EXCHANGES + 1);
        static final int MOST_STEPS = 1000000;
        final int[] word = new int[WORD_ROOM];
        int length = 0;
        final int[] sorted = new int[ROOM];
        int sortedCount = 0;
        final int[] waiting = new int[ROOM];
        int waitingCount = 0;
        final int[] counts = new int[MOST_GENERATORS];

        void begin() {
            length = 0;
        }

        void add(int letter) {
            if (length < WORD_ROOM && letter >= 0 && letter < MOST_GENERATORS) {
                word[length] = letter;
                length++;
            }
        }

        void addTails(Rules rules, int j, int i) {
            for (int k = j + 1; k < rules.count; k++) {
                for (int t = rules.read(j, i, k); t > 0; t--) {
                    add(k);
                }
            }
        }

        /** How many exchanges it takes; NONE if more than the limit. */
        int run(Rules rules, int limit) {
            sortedCount = 0;
            waitingCount = 0;
            for (int p = length - 1; p >= 0; p--) {
                putAhead(word[p]);
            }
            int exchanges = 0;
            for (int step = 0; step < MOST_STEPS && waitingCount > 0; step++) {
                int letter = waiting[waitingCount - 1];
                if (sortedCount == 0 || sorted[sortedCount - 1] <= letter) {
                    moveOn(letter);
                } else if (exchanges == limit) {
                    return NONE;
                } else {
                    exchanges++;
                    exchange(rules, sorted[sortedCount - 1], letter);
                }
            }
            countLetters();
            return exchanges;
        }

        private void putAhead(int letter) {
            if (waitingCount < ROOM) {
                waiting[waitingCount] = letter;
                waitingCount++;
            }
        }

        private void moveOn(int letter) {
            waitingCount--;
            if (sortedCount < ROOM) {
                sorted[sortedCount] = letter;
                sortedCount++;
            }
        }

        private void exchange(Rules rules, int j, int i) {
            sortedCount--;
            waitingCount--;
            for (int k = rules.count - 1; k > j; k--) {
                for (int t = rules.read(j, i, k); t > 0; t--) {
                    putAhead(k);
                }
            }
            putAhead(j);
            putAhead(i);
        }

        private void countLetters() {
            Arrays.fill(counts, 0);
            for (int p = 0; p < sortedCount; p++) {
                counts[sorted[p]]++;
            }
        }
    }

    /** A polynomial told by binomials; each term has three factors at most, since no weight is above 3. */
    private static final class Sum {
        int count = 0;
        final int[] keys = new int[SUM_ROOM];
        final long[] numbers = new long[SUM_ROOM];
        // Where a term's factors stand in a table, six bits each; place 0 holds a 1.
        final int[] places = new int[SUM_ROOM];

        void append(int key, long number) {
            if (count < SUM_ROOM) {
                keys[count] = key;
                numbers[count] = number;
                places[count] = placesOf(key);
                count++;
            }
        }

        void merge(int key, long number) {
            if (number == 0) {
                return;
            }
            for (int t = 0; t < count; t++) {
                if (keys[t] == key) {
                    numbers[t] += number;
                    return;
                }
            }
            append(key, number);
        }

        long value(long[] table) {
            long sum = 0;
            for (int t = 0; t < count; t++) {
                int three = places[t];
                sum += numbers[t] * table[three & PLACE_MASK] * table[(three >> 6) & PLACE_MASK]
                    * table[(three >> 12) & PLACE_MASK];
            }
            return sum;
        }

        static long factors(int places, long[] table) {
            return table[places & PLACE_MASK] * table[(places >> 6) & PLACE_MASK] * table[(places >> 12) & PLACE_MASK];
        }

        static int placesOf(int key) {
            int places = 0;
            for (int v = 0; v < VARIABLES; v++) {
                int degree = degree(key, v);
                if (degree > 0) {
                    places = (places << 6) | (4 * v + degree);
                }
            }
            return places;
        }

        int greatestDegree() {
            int greatest = 0;
            for (int t = 0; t < count; t++) {
                int all = 0;
                for (int v = 0; v < VARIABLES; v++) {
                    all += degree(keys[t], v);
                }
                greatest = Math.max(greatest, all);
            }
            return greatest;
        }

        int greatestWeight(Rules rules) {
            int greatest = 0;
            for (int t = 0; t < count; t++) {
                int weight = 0;
                for (int v = 0; v < VARIABLES; v++) {
                    weight += degree(keys[t], v) * rules.weights[v % MOST_GENERATORS];
                }
                greatest = Math.max(greatest, weight);
            }
            return greatest;
        }

        int termsInBothRows() {
            int found = 0;
            for (int t = 0; t < count; t++) {
                found += hasBoth(keys[t]) ? 1 : 0;
            }
            return found;
        }

        private static boolean hasBoth(int key) {
            for (int i = 0; i < MOST_GENERATORS; i++) {
                if (degree(key, i) > 0 && degree(key, MOST_GENERATORS + i) > 0) {
                    return true;
                }
            }
            return false;
        }

        long sumOfNumbers() {
            long sum = 0;
            for (int t = 0; t < count; t++) {
                sum += numbers[t];
            }
            return sum;
        }
    }

    /** Whether the group is consistent, and its polynomials. */
    private static final class Law {
        // What the polynomials were found for; follow() finds them anew just if the rules have changed.
        final Rules rules = new Rules();
        final Collector collector;
        final Sum[] sums = new Sum[MOST_GENERATORS];
        boolean consistent = false;
        // Grows with each finding, so that others see what of theirs is old.
        int edition = 0;
        private final int[] point = new int[VARIABLES];
        private int pointWeight = 0;
        private final long[] table = new long[TABLE_ROOM];
        private final int[] counts = new int[MOST_GENERATORS];

        Law(Collector collector) {
            this.collector = collector;
            for (int k = 0; k < MOST_GENERATORS; k++) {
                sums[k] = new Sum();
            }
        }

        void follow(Rules current) {
            if (rules.isSame(current)) {
                return;
            }
            rules.takeAll(current);
            edition++;
            consistent = areOverlapsAlike();
            for (int k = 0; k < MOST_GENERATORS; k++) {
                sums[k].count = 0;
            }
            if (consistent) {
                findTerms();
            }
        }

        int termCount() {
            int count = 0;
            for (int k = 0; k < MOST_GENERATORS; k++) {
                count += sums[k].count;
            }
            return count;
        }

        /**
         * Puts the binomials of x for a variable into a table: over 0 .. 2, since a term of both rows leaves no more
         * than that to a variable, and of one row alone there is just a k or b k.
         */
        static void put(long[] table, int variable, long x) {
            int place = 4 * variable;
            if (place < 0 || place + 2 >= table.length) {
                return;
            }
            table[place] = 1;
            table[place + 1] = x;
            table[place + 2] = x * (x - 1) / 2;
        }

        private boolean areOverlapsAlike() {
            for (int k = 2; k < rules.count; k++) {
                for (int j = 1; j < k; j++) {
                    for (int i = 0; i < j; i++) {
                        if (!isOverlapAlike(k, j, i)) {
                            return false;
                        }
                    }
                }
            }
            return true;
        }

        private boolean isOverlapAlike(int k, int j, int i) {
            collector.begin();
            collector.add(j);
            collector.add(k);
            collector.addTails(rules, k, j);
            collector.add(i);
            collector.run(rules, MOST_EXCHANGES);
            System.arraycopy(collector.counts, 0, counts, 0, MOST_GENERATORS);
            collector.begin();
            collector.add(k);
            collector.add(i);
            collector.add(j);
            collector.addTails(rules, j, i);
            collector.run(rules, MOST_EXCHANGES);
            for (int g = 0; g < MOST_GENERATORS; g++) {
                if (counts[g] != collector.counts[g]) {
                    return false;
                }
            }
            return true;
        }

        private void findTerms() {
            Arrays.fill(point, 0);
            pointWeight = 0;
            for (int step = 0; step < SUM_ROOM && goToNextPoint(); step++) {
                findTermsAtPoint();
            }
        }

        /** Goes to the next row of degrees whose weight is no polynomial's too many; false behind the last. */
        private boolean goToNextPoint() {
            for (int s = 2 * rules.count - 1; s >= 0; s--) {
                int i = s < rules.count ? s : s - rules.count;
                int v = s < rules.count ? i : MOST_GENERATORS + i;
                if (pointWeight + rules.weights[i] <= rules.top()) {
                    point[v]++;
                    pointWeight += rules.weights[i];
                    return true;
                }
                pointWeight -= point[v] * rules.weights[i];
                point[v] = 0;
            }
            return false;
        }

        /** At a point all terms but its own are known that aren't 0 there, so what is lacking is its own number. */
        private void findTermsAtPoint() {
            collector.begin();
            int key = 0;
            for (int v = 0; v < VARIABLES; v++) {
                put(table, v, point[v]);
                key = (key << 2) | (point[v] & 3);
                for (int letter = 0; letter < point[v]; letter++) {
                    collector.add(v % MOST_GENERATORS);
                }
            }
            collector.run(rules, MOST_EXCHANGES);
            for (int k = 0; k < rules.count; k++) {
                if (rules.weights[k] < pointWeight) {
                    continue;
                }
                long lacking = collector.counts[k] - sums[k].value(table);
                if (lacking != 0) {
                    sums[k].append(key, lacking);
                }
            }
        }
    }

    /** Reckons with rows of six exponents by the polynomials; those beyond the last generator are always 0. */
    private static final class Arithmetic {
        private final Law law;
        private final long[] table = new long[TABLE_ROOM];
        private final long[] cubeTable = new long[TABLE_ROOM];
        private final long[] first = new long[MOST_GENERATORS];
        private final long[] square = new long[MOST_GENERATORS];
        private final long[] cube = new long[MOST_GENERATORS];
        private final long[] left = new long[MOST_GENERATORS];
        private final long[] right = new long[MOST_GENERATORS];

        Arithmetic(Law law) {
            this.law = law;
        }

        static void copy(long[] from, long[] to) {
            System.arraycopy(from, 0, to, 0, MOST_GENERATORS);
        }

        static boolean areSame(long[] a, long[] b) {
            for (int k = 0; k < MOST_GENERATORS; k++) {
                if (a[k] != b[k]) {
                    return false;
                }
            }
            return true;
        }

        static boolean isOne(long[] row) {
            return isWithin(row, 0);
        }

        static boolean isWithin(long[] row, long greatest) {
            for (int k = 0; k < MOST_GENERATORS; k++) {
                if (row[k] < -greatest || row[k] > greatest) {
                    return false;
                }
            }
            return true;
        }

        static void makeGenerator(long[] row, int i, long exponent) {
            Arrays.fill(row, 0);
            if (i >= 0 && i < MOST_GENERATORS) {
                row[i] = exponent;
            }
        }

        void product(long[] out, long[] a, long[] b) {
            for (int i = 0; i < MOST_GENERATORS; i++) {
                Law.put(table, i, a[i]);
                Law.put(table, MOST_GENERATORS + i, b[i]);
            }
            for (int k = 0; k < MOST_GENERATORS; k++) {
                out[k] = law.sums[k].value(table);
            }
        }

        void inverse(long[] out, long[] a) {
            for (int i = 0; i < MOST_GENERATORS; i++) {
                Law.put(table, i, a[i]);
                Law.put(table, MOST_GENERATORS + i, 0);
            }
            for (int k = 0; k < MOST_GENERATORS; k++) {
                // b k comes into its polynomial as itself alone, so it is what brings the rest to 0.
                out[k] = -law.sums[k].value(table);
                Law.put(table, MOST_GENERATORS + k, out[k]);
            }
        }

        void commutator(long[] out, long[] a, long[] b) {
            product(right, a, b);
            product(left, b, a);
            inverse(left, left);
            product(out, left, right);
        }

        void conjugated(long[] out, long[] a, long[] u) {
            product(right, a, u);
            inverse(left, u);
            product(out, left, right);
        }

        boolean doCommute(long[] a, long[] b) {
            product(left, a, b);
            product(right, b, a);
            return areSame(left, right);
        }

        void findPowers(long[] a) {
            copy(a, first);
            product(square, first, first);
            product(cube, square, first);
        }

        /** The number of "m over i" in exponent k of the powers that were found. */
        long powerNumber(int k, int i) {
            if (k < 0 || k >= MOST_GENERATORS) {
                return 0;
            }
            switch (i) {
                case 1: return first[k];
                case 2: return square[k] - 2 * first[k];
                case 3: return cube[k] - 3 * square[k] + 3 * first[k];
                default: return 0;
            }
        }

        void raise(long[] out, long[] a, long m) {
            findPowers(a);
            for (int k = 0; k < MOST_GENERATORS; k++) {
                out[k] = powerAt(k, m);
            }
        }

        private long powerAt(int k, long m) {
            return powerNumber(k, 1) * m + powerNumber(k, 2) * (m * (m - 1) / 2)
                + powerNumber(k, 3) * (m * (m - 1) * (m - 2) / 6);
        }

        /** The root of a is found by one exponent after the other: those ahead tell what the power has without it. */
        boolean extract(long[] out, long[] a, long m) {
            if (m < 1) {
                return false;
            }
            for (int k = 0; k < MOST_GENERATORS; k++) {
                putRoot(k, 0);
                square[k] = law.sums[k].value(table);
                Law.put(cubeTable, k, square[k]);
                cube[k] = law.sums[k].value(cubeTable);
                long rest = a[k] - powerAt(k, m);
                long exponent = rest / m;
                if (exponent * m != rest || exponent < -GREATEST_EXPONENT || exponent > GREATEST_EXPONENT) {
                    return false;
                }
                putRoot(k, exponent);
                square[k] += 2 * exponent;
                Law.put(cubeTable, k, square[k]);
            }
            copy(first, out);
            return true;
        }

        private void putRoot(int k, long exponent) {
            first[k] = exponent;
            Law.put(table, k, exponent);
            Law.put(table, MOST_GENERATORS + k, exponent);
            Law.put(cubeTable, MOST_GENERATORS + k, exponent);
        }
    }

    /** Rows of whole numbers and all their sums, kept as steps: rows[c] begins at column c, or is all 0. */
    private static final class Lattice {
        static final int MOST_STEPS = 1000;
        int columns = 0;
        final long[][] rows = new long[MOST_GENERATORS][MOST_GENERATORS];
        private final long[] spare = new long[MOST_GENERATORS];

        void clear(int count) {
            columns = Math.max(0, Math.min(count, MOST_GENERATORS));
            for (int c = 0; c < MOST_GENERATORS; c++) {
                Arrays.fill(rows[c], 0);
            }
        }

        boolean hasStep(int c) {
            return c >= 0 && c < columns && rows[c][c] != 0;
        }

        void insert(long[] given) {
            Arithmetic.copy(given, spare);
            for (int c = 0; c < columns; c++) {
                meet(c);
                if (rows[c][c] < 0) {
                    negate(rows[c]);
                }
            }
            tidy();
        }

        /** Takes whole rows from a row until it is as small as can be; true if nothing is left of it. */
        boolean reduce(long[] row) {
            boolean nothing = true;
            for (int c = 0; c < columns; c++) {
                takeStep(row, c);
                nothing = nothing && row[c] == 0;
            }
            return nothing;
        }

        private void takeStep(long[] row, int c) {
            if (rows[c][c] != 0) {
                subtract(row, rows[c], Math.floorDiv(row[c], rows[c][c]));
            }
        }

        /** Euclid's way, by whole rows: in column c rows[c] gets the greatest common divisor, the spare row 0. */
        private void meet(int c) {
            for (int step = 0; step < MOST_STEPS && spare[c] != 0; step++) {
                subtract(rows[c], spare, Math.floorDiv(rows[c][c], spare[c]));
                swapWithSpare(rows[c]);
            }
        }

        private void swapWithSpare(long[] row) {
            for (int c = 0; c < columns; c++) {
                long number = row[c];
                row[c] = spare[c];
                spare[c] = number;
            }
        }

        private void subtract(long[] from, long[] row, long times) {
            for (int c = 0; c < columns; c++) {
                from[c] -= times * row[c];
            }
        }

        private void negate(long[] row) {
            for (int c = 0; c < columns; c++) {
                row[c] = -row[c];
            }
        }

        /** Keeps the rows' numbers small, so that none outgrows a long. */
        private void tidy() {
            for (int r = columns - 1; r >= 0; r--) {
                for (int c = r + 1; c < columns; c++) {
                    takeStep(rows[r], c);
                }
            }
        }
    }

    /** Who conjugates one element into another. */
    private static final class Search {
        static final int MOST_STEPS = 1000000;
        private final Law law;
        private final Lattice turns = new Lattice();
        private final Lattice shifts = new Lattice();
        // gaps[k]: by how much exponent k of a u is beyond that of u y, as a polynomial in u.
        private final Sum[] gaps = new Sum[MOST_GENERATORS];
        private final long[] table = new long[TABLE_ROOM];
        private final long[] row = new long[MOST_GENERATORS];
        private final long[] rest = new long[MOST_GENERATORS];
        private final long[] u = new long[MOST_GENERATORS];
        private int ones = 0;
        private int twos = 0;
        private int threes = 0;

        Search(Law law) {
            this.law = law;
            for (int k = 0; k < MOST_GENERATORS; k++) {
                gaps[k] = new Sum();
            }
        }

        private void findGaps(long[] a, long[] y) {
            for (int i = 0; i < MOST_GENERATORS; i++) {
                Law.put(table, i, a[i]);
                Law.put(table, MOST_GENERATORS + i, y[i]);
            }
            for (int k = 0; k < MOST_GENERATORS; k++) {
                gaps[k].count = 0;
                findGap(law.sums[k], gaps[k]);
            }
        }

        private void findGap(Sum sum, Sum gap) {
            for (int t = 0; t < sum.count; t++) {
                int left = sum.keys[t] & LEFT_HALF;
                int right = sum.keys[t] & RIGHT_HALF;
                // Both times u stands on the left, so that like terms meet.
                gap.merge(right << 12, sum.numbers[t] * Sum.factors(Sum.placesOf(left), table));
                gap.merge(left, -sum.numbers[t] * Sum.factors(Sum.placesOf(right), table));
            }
        }

        boolean conjugator(long[] out, long[] a, long[] y, int bound) {
            findGaps(a, y);
            putU(0);
            int free = 0;
            for (int i = 0; i < law.rules.count; i++) {
                free += law.rules.weights[i] < law.rules.top() ? 1 : 0;
            }
            if (!areClosed(0, free == 0 ? MOST_GENERATORS : 1) || !findWithin(bound, free)) {
                return false;
            }
            Arithmetic.copy(u, out);
            return true;
        }

        /** Gap k hangs on what of u is ahead of k alone, so a beginning of u that leaves one open is given up. */
        private boolean findWithin(int bound, int free) {
            int i = 0;
            setU(0, free == 0 ? 0 : -bound);
            for (int step = 0; step < MOST_STEPS && i < free; step++) {
                if (u[i] > bound) {
                    i--;
                    if (i < 0) {
                        return false;
                    }
                    setU(i, u[i] + 1);
                } else if (!areClosed(i + 1, i + 1 == free ? MOST_GENERATORS : i + 2)) {
                    setU(i, u[i] + 1);
                } else {
                    i++;
                    if (i < free) {
                        setU(i, -bound);
                    }
                }
            }
            return i >= free;
        }

        private boolean areClosed(int from, int behind) {
            for (int k = from; k < behind && k < MOST_GENERATORS; k++) {
                if (gaps[k].value(table) != 0) {
                    return false;
                }
            }
            return true;
        }

        private void setU(int i, long exponent) {
            if (i >= 0 && i < MOST_GENERATORS) {
                u[i] = exponent;
                Law.put(table, i, exponent);
            }
        }

        private void putU(long exponent) {
            for (int i = 0; i < MOST_GENERATORS; i++) {
                setU(i, exponent);
            }
        }

        /**
         * By weights: weight 1 must be the same, weight 2 is moved by u's weight 1 as a linear map; what is left of
         * weight 3 must be in reach of those u that do not move weight 2 (they move weight 3 as a homomorphism).
         */
        boolean areConjugates(long[] a, long[] y) {
            ones = law.rules.countOf(1);
            twos = law.rules.countOf(2);
            threes = law.rules.countOf(3);
            findGaps(a, y);
            putU(0);
            if (!areClosed(0, ones)) {
                return false;
            }
            findTurns();
            if (!turnWeightTwo()) {
                return false;
            }
            copyGaps(ones + twos, threes, rest);
            findGaps(y, y);
            findShifts();
            return shifts.reduce(rest);
        }

        /** Rows of turns: how far a generator of weight 1 moves weight 2, behind it the generator. */
        private void findTurns() {
            turns.clear(twos + ones);
            for (int i = 0; i < ones; i++) {
                putU(0);
                copyGaps(ones, twos, rest);
                setU(i, 1);
                copyGaps(ones, twos, row);
                for (int t = 0; t < twos; t++) {
                    row[t] -= rest[t];
                }
                if (twos + i < MOST_GENERATORS) {
                    row[twos + i] = 1;
                }
                turns.insert(row);
            }
        }

        /** Makes u one that moves weight 2 of a to that of y; false if there is none. */
        private boolean turnWeightTwo() {
            putU(0);
            copyGaps(ones, twos, row);
            turns.reduce(row);
            for (int t = 0; t < twos; t++) {
                if (row[t] != 0) {
                    return false;
                }
            }
            for (int i = 0; i < ones && twos + i < MOST_GENERATORS; i++) {
                setU(i, row[twos + i]);
            }
            return true;
        }

        private void findShifts() {
            shifts.clear(threes);
            for (int c = twos; c < twos + ones && c < MOST_GENERATORS; c++) {
                if (turns.hasStep(c)) {
                    putU(0);
                    for (int i = 0; i < ones && twos + i < MOST_GENERATORS; i++) {
                        setU(i, turns.rows[c][twos + i]);
                    }
                    insertShift();
                }
            }
            for (int i = ones; i < ones + twos; i++) {
                putU(0);
                setU(i, 1);
                insertShift();
            }
        }

        private void insertShift() {
            copyGaps(ones + twos, threes, row);
            shifts.insert(row);
        }

        /** Copies count gaps at u, from one on, to a row's begin. */
        private void copyGaps(int from, int count, long[] to) {
            Arrays.fill(to, 0);
            for (int k = 0; k < count && from + k < MOST_GENERATORS; k++) {
                to[k] = gaps[from + k].value(table);
            }
        }
    }

    /** What short words make; found once for each group. */
    private static final class Ball {
        static final int LONGEST = 4;
        static final int MOST_TOLD = 1000;
        static final int SLOTS = 4096;
        private final Law law;
        private final Arithmetic arithmetic;
        private int edition = 0;
        private final int[] sizes = new int[LONGEST + 1];
        // One row behind the other; a slot tells a row's number plus 1.
        private final long[] found = new long[(MOST_TOLD + 1) * MOST_GENERATORS];
        private final int[] slots = new int[SLOTS];
        private int count = 0;
        private final long[] from = new long[MOST_GENERATORS];
        private final long[] step = new long[MOST_GENERATORS];
        private final long[] made = new long[MOST_GENERATORS];

        Ball(Law law, Arithmetic arithmetic) {
            this.law = law;
            this.arithmetic = arithmetic;
        }

        int sizeOf(int l) {
            find();
            return l >= 0 && l <= LONGEST ? sizes[l] : NONE;
        }

        int levelOf(long[] row) {
            find();
            int number = slots[slotOf(row)] - 1;
            for (int l = 0; l <= LONGEST && number >= 0 && sizes[l] != NONE; l++) {
                if (number < sizes[l]) {
                    return l;
                }
            }
            return NONE;
        }

        private void find() {
            if (edition == law.edition) {
                return;
            }
            edition = law.edition;
            Arrays.fill(slots, 0);
            count = 0;
            Arrays.fill(made, 0);
            keepMade();
            sizes[0] = count;
            int inner = 0;
            for (int l = 1; l <= LONGEST; l++) {
                int outer = count;
                grow(inner, outer);
                sizes[l] = count > MOST_TOLD ? NONE : count;
                inner = outer;
            }
        }

        private void grow(int inner, int outer) {
            for (int number = inner; number < outer && count <= MOST_TOLD; number++) {
                System.arraycopy(found, number * MOST_GENERATORS, from, 0, MOST_GENERATORS);
                for (int i = 0; i < law.rules.count && law.rules.weights[i] == 1; i++) {
                    growBy(i, 1);
                    growBy(i, -1);
                }
            }
        }

        private void growBy(int i, int exponent) {
            Arithmetic.makeGenerator(step, i, exponent);
            arithmetic.product(made, from, step);
            keepMade();
        }

        private void keepMade() {
            int slot = slotOf(made);
            if (slots[slot] == 0 && count <= MOST_TOLD) {
                System.arraycopy(made, 0, found, count * MOST_GENERATORS, MOST_GENERATORS);
                count++;
                slots[slot] = count;
            }
        }

        /** Where a row is, or the free slot where it would come. */
        private int slotOf(long[] row) {
            long mixed = 0;
            for (int k = 0; k < MOST_GENERATORS; k++) {
                mixed = mixed * 31 + row[k];
            }
            int slot = (int) mixed & (SLOTS - 1);
            for (int tried = 0; tried < SLOTS && slots[slot] != 0 && !isAt(slots[slot] - 1, row); tried++) {
                slot = (slot + 1) & (SLOTS - 1);
            }
            return slot;
        }

        private boolean isAt(int number, long[] row) {
            for (int k = 0; k < MOST_GENERATORS; k++) {
                if (found[number * MOST_GENERATORS + k] != row[k]) {
                    return false;
                }
            }
            return true;
        }
    }

    /** Reads a text from left to right, so that the first fault that it meets is the first by its place. */
    private static final class Reader {
        int faultKind = 0;
        int faultPlace = NONE;
        // By how many brackets are open: the word so far, its latest factor, the commutator so far.
        final long[][] words = new long[DEEPEST + 1][MOST_GENERATORS];
        private final long[][] factors = new long[DEEPEST + 1][MOST_GENERATORS];
        private final long[][] commutators = new long[DEEPEST + 1][MOST_GENERATORS];
        private final State state;
        private final Arithmetic arithmetic;
        private final int[] bytes = new int[TAPE_ROOM];
        private int length = 0;
        private int place = 0;
        // The place behind the last byte of the latest factor or power.
        private int behind = 0;

        Reader(State state, Arithmetic arithmetic) {
            this.state = state;
            this.arithmetic = arithmetic;
        }

        void forget() {
            faultKind = 0;
            faultPlace = NONE;
        }

        /** Whether it is a text: then words[0] is what it tells. */
        boolean read(int[] tape, int count) {
            length = Math.max(0, Math.min(count, Math.min(tape.length, TAPE_ROOM)));
            System.arraycopy(tape, 0, bytes, 0, length);
            place = 0;
            behind = 0;
            if (!readWord(0)) {
                return false;
            }
            return place >= length || fail(FAULT_BYTE, place);
        }

        private boolean fail(int kind, int where) {
            faultKind = kind;
            faultPlace = where;
            return false;
        }

        private int signHere() {
            return place >= 0 && place < length ? bytes[place] : NONE;
        }

        private int skipBlanks() {
            for (int guard = 0; guard < TAPE_ROOM && signHere() == ' '; guard++) {
                place++;
            }
            return signHere();
        }

        private static boolean isDigit(int sign) {
            return sign >= '0' && sign <= '9';
        }

        private static boolean beginsFactor(int sign) {
            return (sign >= 'a' && sign <= 'f') || sign == 'R' || sign == '(' || sign == '[';
        }

        /** Reads factors as long as there are any; blanks behind the last are skipped. */
        private boolean readWord(int depth) {
            if (depth < 0 || depth > DEEPEST) {
                return false;
            }
            long[] word = words[depth];
            Arrays.fill(word, 0);
            for (int guard = 0; guard < TAPE_ROOM && beginsFactor(skipBlanks()); guard++) {
                if (!readFactor(depth) || !readPower(factors[depth])) {
                    return false;
                }
                arithmetic.product(word, word, factors[depth]);
                if (!Arithmetic.isWithin(word, GREATEST_EXPONENT)) {
                    return fail(FAULT_OVER, behind);
                }
            }
            return true;
        }

        private boolean readFactor(int depth) {
            int sign = signHere();
            if (sign == 'R') {
                return readRegister(factors[depth]);
            }
            if (sign != '(' && sign != '[') {
                return readLetter(sign - 'a', factors[depth]);
            }
            if (depth >= DEEPEST) {
                return fail(FAULT_DEPTH, place);
            }
            place++;
            return sign == '(' ? readRound(depth) : readSquare(depth);
        }

        private boolean readLetter(int letter, long[] factor) {
            if (letter < 0 || letter >= state.rules.count) {
                return fail(FAULT_LETTER, place);
            }
            Arithmetic.makeGenerator(factor, letter, 1);
            return passFactor();
        }

        private boolean readRegister(long[] factor) {
            place++;
            int register = signHere() - '0';
            if (!isRegister(register)) {
                return fail(FAULT_BYTE, place);
            }
            Arithmetic.copy(state.registers[register], factor);
            return passFactor();
        }

        /** Goes over the last byte of a factor. */
        private boolean passFactor() {
            place++;
            behind = place;
            return true;
        }

        private boolean readRound(int depth) {
            if (!readWord(depth + 1)) {
                return false;
            }
            if (signHere() != ')') {
                return fail(FAULT_BYTE, place);
            }
            Arithmetic.copy(words[depth + 1], factors[depth]);
            return passFactor();
        }

        private boolean readSquare(int depth) {
            long[] sofar = commutators[depth];
            if (!readWord(depth + 1)) {
                return false;
            }
            Arithmetic.copy(words[depth + 1], sofar);
            if (signHere() != ',') {
                return fail(FAULT_BYTE, place);
            }
            for (int guard = 0; guard < TAPE_ROOM && signHere() == ','; guard++) {
                place++;
                if (!readWord(depth + 1)) {
                    return false;
                }
                arithmetic.commutator(sofar, sofar, words[depth + 1]);
                if (!Arithmetic.isWithin(sofar, GREATEST_EXPONENT)) {
                    return fail(FAULT_OVER, behind);
                }
            }
            if (signHere() != ']') {
                return fail(FAULT_BYTE, place);
            }
            Arithmetic.copy(sofar, factors[depth]);
            return passFactor();
        }

        private boolean readPower(long[] factor) {
            if (skipBlanks() != '^') {
                return true;
            }
            place++;
            boolean below = skipBlanks() == '-';
            if (below) {
                place++;
            }
            if (!isDigit(skipBlanks())) {
                return fail(FAULT_BYTE, place);
            }
            int begin = place;
            int number = 0;
            for (int guard = 0; guard < TAPE_ROOM && isDigit(signHere()); guard++) {
                number = Math.min(number * 10 + signHere() - '0', GREATEST_POWER + 1);
                place++;
            }
            if (number > GREATEST_POWER) {
                return fail(FAULT_NUMBER, begin);
            }
            arithmetic.raise(factor, factor, below ? -number : number);
            behind = place;
            return Arithmetic.isWithin(factor, GREATEST_EXPONENT) || fail(FAULT_OVER, place);
        }
    }
}
