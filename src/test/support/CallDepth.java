import java.io.File;
import java.io.PrintWriter;
import java.io.StringWriter;
import java.net.URISyntaxException;
import java.util.ArrayList;
import java.util.LinkedHashMap;
import java.util.LinkedHashSet;
import java.util.List;
import java.util.Map;
import java.util.Optional;
import java.util.Set;
import java.util.regex.Matcher;
import java.util.regex.Pattern;
import java.util.spi.ToolProvider;

/** LANGUAGE.md's rule 11: calls that are no recursion go at most eight deep; rule 8: what calls itself is the reader alone. */
final class CallDepth {
    private static final int DEEPEST = 8;
    private static final Pattern DECLARED = Pattern.compile("^  (?:.* )?([\\w$.]+)\\(.*\\);$");
    private static final Pattern DESCRIPTOR = Pattern.compile("^    descriptor: (\\S+)");
    private static final Pattern CALLED = Pattern.compile("// (?:Interface)?Method (\\S+)$");
    private final Map<String, Set<String>> calls = new LinkedHashMap<>();
    private final List<String> path = new ArrayList<>();
    private final Set<String> recursive = new LinkedHashSet<>();
    private List<String> longest = new ArrayList<>();

    private CallDepth() {
    }

    static void check() {
        Optional<ToolProvider> javap = ToolProvider.findFirst("javap");
        if (javap.isEmpty()) {
            System.out.println("no javap here, so nothing is told of how deep calls go");
            return;
        }
        CallDepth depth = new CallDepth();
        depth.readAll(javap.get());
        for (String method : depth.calls.keySet()) {
            if (method.startsWith("HallRegisters.")) {
                depth.walk(method);
            }
        }
        System.out.println(depth.longest.size() + " calls deep at most");
        Check.due("calls were found", depth.longest.size() > 3, true);
        Check.due("deepest " + depth.longest, depth.longest.size() <= DEEPEST, true);
        for (String method : depth.recursive) {
            Check.due(method + " calls itself", method.startsWith("HallRegisters$Reader.read"), true);
        }
    }

    private void readAll(ToolProvider javap) {
        try {
            File folder = new File(HallRegisters.class.getProtectionDomain().getCodeSource().getLocation().toURI());
            for (File file : folder.listFiles()) {
                if (file.getName().matches("HallRegisters(\\$.*)?\\.class")) {
                    StringWriter text = new StringWriter();
                    javap.run(new PrintWriter(text), new PrintWriter(text), "-c", "-p", "-s", file.getPath());
                    read(file.getName().replace(".class", ""), text.toString());
                }
            }
        } catch (URISyntaxException problem) {
            Check.due("the classes' folder: " + problem, 1, 0);
        }
    }

    private void read(String type, String text) {
        String name = "";
        String method = "";
        for (String line : text.split("\n")) {
            Matcher declared = DECLARED.matcher(line);
            Matcher descriptor = DESCRIPTOR.matcher(line);
            Matcher called = CALLED.matcher(line);
            if (declared.find()) {
                name = declared.group(1).equals(type) ? "\"<init>\"" : declared.group(1);
            } else if (descriptor.find()) {
                method = type + "." + name + ":" + descriptor.group(1);
                calls.put(method, new LinkedHashSet<>());
            } else if (called.find() && !method.isEmpty()) {
                String of = called.group(1);
                calls.get(method).add(of.split(":")[0].contains(".") ? of : type + "." + of);
            }
        }
    }

    private void walk(String method) {
        path.add(method);
        if (path.size() > longest.size()) {
            longest = new ArrayList<>(path);
        }
        for (String next : calls.get(method)) {
            if (path.contains(next)) {
                recursive.addAll(path.subList(path.indexOf(next), path.size()));
            } else if (calls.containsKey(next)) {
                walk(next);
            }
        }
        path.remove(path.size() - 1);
    }
}
