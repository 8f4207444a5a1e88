import java.io.IOException;
import java.lang.reflect.Method;
import java.lang.reflect.Modifier;
import java.nio.file.Files;
import java.nio.file.Path;
import java.util.ArrayList;
import java.util.Collections;
import java.util.HashMap;
import java.util.List;
import java.util.Map;
import java.util.regex.Matcher;
import java.util.regex.Pattern;
import java.util.stream.Stream;

/**
 * Each test of a boundary case tells its place and its words in the document: "Promise 5: "(i 1 .. n)"." ahead of the method;
 * here they are looked up in ../shared/DOC.md, and no promise and no term is left out. Runs where the project's root is.
 */
public final class DocTest {
    private static final Pattern TOLD = Pattern.compile("/\\*\\* (Promise \\d+|Term \\d|What it is|The constants): \"(.*?)\"\\.?"
        + "( [^\"\n]*)? \\*/\n    static void \\w+\\(\\)");
    private static final Pattern METHOD = Pattern.compile("\n    static void \\w+\\(\\)");

    private DocTest() {
    }

    public static void main(String[] args) throws IOException {
        Path doc = Path.of("../shared/DOC.md");
        if (!Files.exists(doc)) {
            System.out.println("no " + doc + ", so no words are looked up in it");
            return;
        }
        Map<String, String> places = places(Files.readString(doc));
        Map<String, Integer> tests = new HashMap<>();
        for (Path file : files()) {
            String text = Files.readString(file);
            int told = 0;
            Matcher matcher = TOLD.matcher(text);
            while (matcher.find()) {
                told++;
                tests.merge(matcher.group(1), 1, Integer::sum);
                String words = places.getOrDefault(matcher.group(1), "");
                Check.due(matcher.group(1) + " says \"" + matcher.group(2) + "\"", words.contains(matcher.group(2)), true);
            }
            Check.due(file + " tells words for each test", told, METHOD.matcher(text).results().count());
        }
        for (String place : places.keySet()) {
            Check.due(place + " has a test", tests.containsKey(place), true);
        }
        Check.due("34 promises and 4 terms", places.keySet().stream().filter(place -> place.matches("(Promise|Term) \\d+")).count(), 38);
        face(Files.readString(doc));
        Check.finish("DocTest");
    }

    /** The class has the methods of the public face, no other ones. */
    private static void face(String text) {
        List<String> due = new ArrayList<>();
        Matcher matcher = Pattern.compile("\n    public ((?:boolean|int|long) \\w+)\\(([^)]*)\\);").matcher(text);
        while (matcher.find()) {
            due.add(matcher.group(1) + "(" + matcher.group(2).replaceAll(" \\w+(,|$)", "$1").replace(" ", "") + ")");
        }
        List<String> has = new ArrayList<>();
        for (Method method : HallRegisters.class.getDeclaredMethods()) {
            if (Modifier.isPublic(method.getModifiers())) {
                StringBuilder types = new StringBuilder();
                for (Class<?> type : method.getParameterTypes()) {
                    types.append(types.length() > 0 ? "," : "").append(type);
                }
                has.add(method.getReturnType() + " " + method.getName() + "(" + types + ")");
            }
        }
        Collections.sort(due);
        Collections.sort(has);
        Check.due("methods of the public face", due.size(), 33);
        Check.due("the public face", has.toString(), due.toString());
    }

    private static List<Path> files() throws IOException {
        try (Stream<Path> all = Files.list(Path.of("src/test/java"))) {
            return new ArrayList<>(all.filter(file -> file.toString().endsWith("BoundsTest.java")).sorted().toList());
        }
    }

    /** What stands at each place that has boundary cases. */
    private static Map<String, String> places(String text) {
        Map<String, String> places = new HashMap<>();
        String place = "";
        for (String line : text.split("\n")) {
            if (line.startsWith("## Promise ")) {
                place = line.substring(3, line.indexOf(':'));
            } else if (line.startsWith("==== ")) {
                place = "Term " + line.charAt(5);
            } else if (line.startsWith("The constants: ")) {
                place = "The constants";
            } else if (line.startsWith("## ")) {
                place = line.equals("## What it is") ? "What it is" : "";
            }
            if (!place.isEmpty()) {
                places.merge(place, line + "\n", String::concat);
            }
        }
        return places;
    }
}
