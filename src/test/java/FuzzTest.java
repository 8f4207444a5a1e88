import java.util.Random;

/** No call throws or fails to end, whatever its arguments; the same calls give the same answers. */
public final class FuzzTest {
    private static final int[] EDGES = {Integer.MIN_VALUE, Integer.MIN_VALUE + 1, -1000, -999, -100, -99, -1, 0, 1, 2, 3, 4, 5,
        6, 7, 8, 9, 10, 20, 24, 99, 100, 180, 200, 201, 999, 1000, 4095, 4096, Integer.MAX_VALUE - 1, Integer.MAX_VALUE};
    private static final String SIGNS = "abcdefabcdefR0R1R9()[],,^^--123 909((((";

    private FuzzTest() {
    }

    public static void main(String[] args) {
        int runs = args.length > 0 ? Integer.parseInt(args[0]) : 400;
        for (int run = 0; run < runs; run++) {
            StringBuilder calls = new StringBuilder();
            try {
                Check.due("run " + run + " once more", answers(run, calls), answers(run, new StringBuilder()));
            } catch (RuntimeException | StackOverflowError problem) {
                Check.due("run " + run + ": " + problem + " after " + calls, 1, 0);
            }
        }
        Check.finish("FuzzTest");
    }

    private static long answers(int run, StringBuilder calls) {
        Random random = new Random(run);
        HallRegisters x = new HallRegisters();
        long mixed = 0;
        for (int call = 0; call < 512; call++) {
            int chosen = random.nextInt(35);
            int[] a = new int[5];
            for (int i = 0; i < a.length; i++) {
                a[i] = argument(random, run);
            }
            calls.append(chosen).append(java.util.Arrays.toString(a)).append(' ');
            mixed = mixed * 31 + (chosen < 18 ? act(x, chosen, a, random) : ask(x, chosen, a));
        }
        return mixed;
    }

    private static int argument(Random random, int run) {
        if (random.nextInt(8 + run % 40) == 0) {
            return random.nextBoolean() ? EDGES[random.nextInt(EDGES.length)] : random.nextInt();
        }
        return random.nextInt(random.nextBoolean() ? 3 : 10);
    }

    private static int bytes(Random random) {
        int number = 0;
        for (int p = 0; p < 4; p++) {
            number = number << 8 | SIGNS.charAt(random.nextInt(SIGNS.length()));
        }
        return random.nextInt(20) == 0 ? random.nextInt() : number;
    }

    private static long act(HallRegisters x, int chosen, int[] a, Random random) {
        switch (chosen) {
            case 0: return x.group(a[0], random.nextInt(6) == 0 ? a[1] : new int[] {1, 5, 37, 229, 997, 3733}[random.nextInt(6)])
                ? 1 : 0;
            case 1: return x.tail(a[0] + 1, a[1], a[2] + 2, a[3]) ? 1 : 0;
            case 2: return x.kind(a[0]) ? 1 : 0;
            case 3: return x.set(a[0], a[1], a[2]) ? 1 : 0;
            case 4: return x.multiply(a[0], a[1], a[2]) ? 1 : 0;
            case 5: return x.invert(a[0], a[1]) ? 1 : 0;
            case 6: return x.power(a[0], a[1], a[2]) ? 1 : 0;
            case 7: return x.commute(a[0], a[1], a[2]) ? 1 : 0;
            case 8: return x.conjugate(a[0], a[1], a[2]) ? 1 : 0;
            case 9: return x.root(a[0], a[1], a[2]) ? 1 : 0;
            case 10: return x.seek(a[0], a[1], a[2], a[3]) ? 1 : 0;
            case 11: return x.feed(bytes(random), bytes(random), bytes(random), bytes(random), bytes(random));
            case 12: return x.end(a[0]) ? 1 : 0;
            case 13: return x.text(a[0]) ? 1 : 0;
            case 14: return x.collect();
            case 15: return x.undo();
            case 16: return x.image(random.nextBoolean()) ? 1 : 0;
            default: return x.set(a[0], a[1], random.nextInt(1999) - 999) ? 1 : 0;
        }
    }

    private static long ask(HallRegisters x, int chosen, int[] a) {
        switch (chosen) {
            case 18: return x.fault(a[0]);
            case 19: return x.collected(a[0]);
            case 20: return x.consistent();
            case 21: return x.exponent(a[0], a[1]);
            case 22: return x.generator(a[0], a[1]);
            case 23: return x.tailOf(a[0], a[1], a[2]);
            case 24: return x.terms(a[0]);
            case 25: return x.term(a[0], a[1], a[2]);
            case 26: return x.register(a[0], a[1]);
            case 27: return x.both(a[0], a[1], a[2]);
            case 28: return x.alike(a[0], a[1]);
            case 29: return x.shape(a[0], a[1]);
            case 30: return x.powers(a[0], a[1], a[2]);
            case 31: return x.associates(a[0], a[1], a[2]);
            case 32: return x.ball(a[0]);
            default: return x.look(a[0]);
        }
    }
}
