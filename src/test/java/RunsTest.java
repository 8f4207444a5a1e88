import java.lang.reflect.InvocationTargetException;
import java.lang.reflect.Method;
import java.util.HashMap;
import java.util.List;
import java.util.Map;
import java.util.Random;

/** All promises: random runs of 512 calls of every kind on one object, each answer against the document taken literally. */
public final class RunsTest {
    private static final int CALLS = 512;
    private static final int[] EDGES = {-1, 0, 10, 100, 1000, -1000, 999, -999, Integer.MIN_VALUE, Integer.MAX_VALUE};
    private static final String[] TOLD = {"register", "register", "register", "register", "both", "powers", "associates", "ball",
        "look", "look", "generator", "tailOf", "terms", "term", "term", "shape", "collected", "consistent", "fault", "exponent"};
    private static final Map<String, Method> METHODS = new HashMap<>();

    private final Random random;
    private final HallRegisters x = new HallRegisters();
    private final Model model = new Model();
    private final boolean large;
    private int calls = 0;
    private String latest = "";

    private RunsTest(int run) {
        random = new Random(run * 7919L + 5);
        large = run % 3 == 2;
    }

    public static void main(String[] args) {
        for (Method method : HallRegisters.class.getMethods()) {
            METHODS.put(method.getName(), method);
        }
        int runs = args.length > 0 ? Integer.parseInt(args[0]) : 120;
        for (int run = 0; run < runs && Check.wrong() == 0; run++) {
            new RunsTest(run).run(run);
        }
        Check.finish("RunsTest");
    }

    private void run(int run) {
        while (calls < CALLS && Check.wrong() == 0) {
            step();
        }
        if (Check.wrong() > 0) {
            System.out.println("run " + run + ", the latest calls: " + latest);
        }
    }

    /** One call on both; none behind the 512th. */
    private void call(String name, int... a) {
        if (calls == CALLS) {
            return;
        }
        calls++;
        String told = name + java.util.Arrays.toString(a);
        latest = latest.substring(Math.max(0, latest.length() - 2000)) + " " + told;
        Long want = model.answer(name, a);
        long got = ask(METHODS.get(name), a);
        if (want != null) {
            Check.due("call " + calls + ", " + told, got, want);
        }
    }

    private long ask(Method method, int[] a) {
        Object[] arguments = new Object[a.length];
        for (int i = 0; i < a.length; i++) {
            arguments[i] = a[i];
            if (method.getParameterTypes()[i] == boolean.class) {
                arguments[i] = a[i] == 1;
            }
        }
        try {
            Object answer = method.invoke(x, arguments);
            return answer instanceof Boolean is ? (is ? 1 : 0) : ((Number) answer).longValue();
        } catch (InvocationTargetException | IllegalAccessException problem) {
            throw new IllegalStateException(latest, problem);
        }
    }

    private int from(int low, int high) {
        return random.nextInt(50) == 0 ? EDGES[random.nextInt(EDGES.length)] : low + random.nextInt(high - low + 1);
    }

    private int register() {
        return from(0, 9);
    }

    private int exponent() {
        int greatest = large ? 999 : new int[] {2, 3, 12, 31}[random.nextInt(4)];
        return large && random.nextInt(4) == 0 ? 999 : from(-greatest, greatest);
    }

    private void step() {
        int chosen = random.nextInt(100);
        if (chosen < 14) {
            call("set", register(), from(1, model.n()), exponent());
        } else if (chosen < 40) {
            reckon(chosen % 8);
        } else if (chosen < 44) {
            seekWhatIsThere();
        } else if (chosen < 54) {
            text();
        } else if (chosen < 58) {
            collect();
        } else if (chosen < 90) {
            tell(TOLD[random.nextInt(TOLD.length)]);
        } else if (chosen < 93) {
            for (int times = random.nextInt(4) == 0 ? 9 : 1; times > 0; times--) {
                call("undo");
            }
        } else if (chosen < 96) {
            call("image", random.nextInt(2));
        } else {
            group();
        }
    }

    private void reckon(int chosen) {
        int r = register();
        int a = register();
        switch (chosen) {
            case 0: call("multiply", r, a, register()); break;
            case 1: call("invert", r, a); break;
            case 2: call("power", r, a, random.nextBoolean() ? from(-99, 99) : from(-3, 5)); break;
            case 3: call("commute", r, a, register()); break;
            case 4: call("conjugate", r, a, register()); break;
            case 5: call("root", r, a, random.nextBoolean() ? from(1, 99) : from(1, 4)); break;
            case 6: call("alike", a, register()); break;
            default: call("seek", r, a, register(), from(1, 2)); break;
        }
        call("exponent", r, from(1, model.n()));
    }

    private void seekWhatIsThere() {
        int a = random.nextInt(4);
        for (int i = 1; i <= model.n(); i++) {
            call("set", 5, i, random.nextInt(5) - 2);
        }
        call("conjugate", 6, a, 5);
        call("alike", a, 6);
        call("seek", 7, a, 6, 1 + random.nextInt(2));
        call("register", 7, 5);
    }

    private void text() {
        String text = random.nextInt(4) == 0 ? RandomWords.soup(random) : RandomWords.word(random, 0, random.nextBoolean());
        feed(text.length() > 200 ? text.substring(0, 200) : text);
        int r = register();
        call("text", r);
        call("fault", 0);
        call("fault", 1);
        call("exponent", r, from(1, model.n()));
    }

    private void collect() {
        StringBuilder word = new StringBuilder();
        for (int letter = random.nextInt(random.nextBoolean() ? 6 : 26); letter > 0; letter--) {
            word.append((char) ('a' + random.nextInt(model.n())));
        }
        if (random.nextInt(8) == 0) {
            word.append(" fgA".charAt(random.nextInt(4)));
        }
        feed(word.toString());
        call("collect");
        call("collected", from(1, 6));
        call("look", 7);
    }

    private void feed(String text) {
        if (random.nextInt(20) > 0) {
            call("end", 0);
        }
        for (int begin = 0; begin < text.length(); begin += 20) {
            int[] numbers = new int[5];
            for (int p = 0; p < 20; p++) {
                numbers[p / 4] = numbers[p / 4] << 8 | (begin + p < text.length() ? text.charAt(begin + p) & 255 : random.nextInt(256));
            }
            call("feed", numbers);
        }
        call("end", text.length());
    }

    private void tell(String name) {
        int n = model.n();
        switch (name) {
            case "register": call(name, register(), from(0, 7)); break;
            case "both": call(name, register(), register(), from(0, 2)); break;
            case "powers": call(name, register(), from(1, n), from(0, 3)); break;
            case "associates": call(name, register(), register(), register()); break;
            case "generator": call(name, from(1, n), from(0, 1)); break;
            case "tailOf": call(name, from(1, n), from(1, n), from(1, n)); break;
            case "term": call(name, from(1, n), from(0, 5), from(0, 2 * n)); break;
            case "shape": call(name, from(1, n), from(0, 3)); break;
            case "exponent": call(name, register(), from(1, n)); break;
            case "consistent": call(name); break;
            case "terms": call(name, from(1, n)); break;
            case "ball": call(name, from(0, 4)); break;
            case "look": call(name, from(0, 9)); break;
            default: call(name, from(0, 6)); break;
        }
    }

    private void group() {
        int chosen = random.nextInt(4);
        if (chosen == 0) {
            call("kind", from(0, 3));
        } else if (chosen == 1) {
            call("kind", 2);
        } else {
            int[] weights = new int[1 + random.nextInt(6)];
            java.util.Arrays.setAll(weights, i -> 1 + Math.min(2, random.nextInt(6) / 2));
            java.util.Arrays.sort(weights);
            int packed = 0;
            for (int i = weights.length - 1; i >= 0; i--) {
                packed = packed * 4 + weights[i];
            }
            call("group", weights.length, random.nextInt(12) == 0 ? from(0, 4095) : packed);
        }
        List<int[]> tails = model.tails();
        for (int more = random.nextInt(5); more > 0 && !tails.isEmpty(); more--) {
            int[] jik = tails.get(random.nextInt(tails.size()));
            call("tail", jik[0], jik[1], jik[2], from(0, 3));
        }
    }
}
