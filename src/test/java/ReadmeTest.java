import java.io.IOException;
import java.lang.reflect.InvocationTargetException;
import java.lang.reflect.Method;
import java.lang.reflect.Modifier;
import java.nio.file.Files;
import java.nio.file.Path;
import java.util.List;
import java.util.regex.Matcher;
import java.util.regex.Pattern;
import java.util.stream.Stream;

/**
 * README.md: each answer in its examples is asked for, and no call and no test is left out. Runs where the project's root is.
 */
public final class ReadmeTest {
    private static final Pattern CALL = Pattern.compile("x\\.(\\w+)\\(([^)]*)\\); *// (-?\\d+|true|false)\\b.*");

    private ReadmeTest() {
    }

    public static void main(String[] args) throws IOException, IllegalAccessException, InvocationTargetException {
        String readme = Files.readString(Path.of("README.md"));
        HallRegisters x = null;
        boolean inside = false;
        int calls = 0;
        for (String line : readme.split("\n")) {
            if (line.startsWith("```")) {
                inside = line.equals("```java");
            } else if (inside && line.startsWith("HallRegisters x = new HallRegisters();")) {
                x = new HallRegisters();
                calls = 0;
            } else if (inside && !line.isBlank()) {
                Matcher call = CALL.matcher(line);
                Check.due("a call and its answer: " + line, x != null && call.matches(), true);
                Check.due(line, ask(x, call), call.group(3));
                calls++;
            }
        }
        Check.due("calls told by README.md", calls > 30 && calls <= 512, true);
        for (Method method : HallRegisters.class.getDeclaredMethods()) {
            if (Modifier.isPublic(method.getModifiers())) {
                Check.due("README.md tells of " + method.getName(), readme.contains("`" + method.getName() + "("), true);
            }
        }
        for (String test : tests()) {
            Check.due("README.md tells of " + test, readme.contains("`" + test + "`"), true);
        }
        Check.finish("ReadmeTest");
    }

    private static String ask(HallRegisters x, Matcher call) throws IllegalAccessException, InvocationTargetException {
        for (Method method : HallRegisters.class.getMethods()) {
            if (method.getName().equals(call.group(1))) {
                return String.valueOf(method.invoke(x, arguments(call.group(2))));
            }
        }
        return "no such call";
    }

    private static Object[] arguments(String told) {
        return Stream.of(told.split(", *")).filter(argument -> !argument.isEmpty())
            .map(argument -> argument.equals("true") || argument.equals("false") ? (Object) Boolean.valueOf(argument)
                : Integer.decode(argument)).toArray();
    }

    private static List<String> tests() throws IOException {
        try (Stream<Path> all = Files.list(Path.of("src/test/java"))) {
            return all.map(file -> file.getFileName().toString().replace(".java", "")).sorted().toList();
        }
    }
}
