import java.io.IOException;
import java.lang.reflect.Constructor;
import java.lang.reflect.Field;
import java.lang.reflect.Method;
import java.lang.reflect.Modifier;
import java.nio.file.Files;
import java.nio.file.Path;
import java.util.HashSet;
import java.util.Set;
import java.util.regex.Matcher;
import java.util.regex.Pattern;

/** What of ../shared/LANGUAGE.md can be seen from the text and by reflection. Runs where the project's root is. */
public final class LanguageTest {
    private static final String[] FORBIDDEN = {"\\bthrow\\b", "\\btry\\b", "\\bcatch\\b", "\\bsynchronized\\b", "\\bassert\\b",
        "->", "::", "\\bpackage\\b", "\\bThread\\b", "Exact\\b", "\\bRandom\\b", "\\bnanoTime\\b", "\\bcurrentTimeMillis\\b",
        "\\bObject\\b", "\\bvar\\b", "\\bsuper\\b", "static\\s*\\{", "\\bprotected\\b", "\\bequals\\b", "\\bhashCode\\b",
        "\\btoString\\b", "\\bwhile\\s*\\(\\s*true", "for\\s*\\(\\s*;\\s*;", "\\bdouble\\b", "\\bfloat\\b", "\\bString\\b"};

    private LanguageTest() {
    }

    public static void main(String[] args) throws IOException {
        String text = Files.readString(Path.of("src/main/java/HallRegisters.java"));
        String code = text.replaceAll("(?s)/\\*.*?\\*/", " ").replaceAll("//[^\n]*", " ").replaceAll("'[^']'", "0");
        for (String forbidden : FORBIDDEN) {
            Matcher matcher = Pattern.compile(forbidden).matcher(code);
            Check.due("there is " + forbidden, matcher.find(), false);
        }
        Matcher library = Pattern.compile("\\b(System|Arrays|Math)\\.(\\w+)").matcher(code);
        while (library.find()) {
            boolean fine = Set.of("System.arraycopy", "Arrays.fill", "Math.max", "Math.min", "Math.floorDiv")
                .contains(library.group());
            Check.due("library " + library.group(), fine, true);
        }
        Matcher imports = Pattern.compile("import ([^;]*);").matcher(code);
        while (imports.find()) {
            Check.due("import " + imports.group(1), imports.group(1).equals("java.util.Arrays"), true);
        }
        face();
        classes(code);
        methodLengths(code);
        CallDepth.check();
        Check.finish("LanguageTest");
    }

    private static void face() {
        int open = 0;
        for (Method method : HallRegisters.class.getDeclaredMethods()) {
            int modifiers = method.getModifiers();
            Check.due(method + " is public or private", Modifier.isPublic(modifiers) || Modifier.isPrivate(modifiers), true);
            open += Modifier.isPublic(modifiers) ? 1 : 0;
        }
        Check.due("public methods", open, 33);
        for (Constructor<?> constructor : HallRegisters.class.getDeclaredConstructors()) {
            Check.due("the constructor is public", Modifier.isPublic(constructor.getModifiers()), true);
        }
        for (Field field : HallRegisters.class.getDeclaredFields()) {
            boolean none = field.getName().equals("NONE");
            Check.due(field + " is private", Modifier.isPrivate(field.getModifiers()), !none);
        }
        Check.due("the class is final", Modifier.isFinal(HallRegisters.class.getModifiers()), true);
    }

    private static void classes(String code) {
        Set<String> open = new HashSet<>();
        for (Method method : HallRegisters.class.getDeclaredMethods()) {
            if (Modifier.isPublic(method.getModifiers())) {
                open.add(method.getName());
            }
        }
        Check.due("classes", HallRegisters.class.getDeclaredClasses().length <= 12, true);
        for (Class<?> inside : HallRegisters.class.getDeclaredClasses()) {
            Check.due(inside + " is static", Modifier.isStatic(inside.getModifiers()), true);
            int fields = 0;
            for (Field field : inside.getDeclaredFields()) {
                fields += Modifier.isStatic(field.getModifiers()) ? 0 : 1;
            }
            Check.due(inside + " has " + fields + " fields", fields <= 20, true);
            for (Method method : inside.getDeclaredMethods()) {
                Check.due(method + " has a name of its own", open.contains(method.getName()), false);
                Check.due(method + " takes seven at most", method.getParameterCount() <= 7, true);
            }
        }
        for (Method method : HallRegisters.class.getDeclaredMethods()) {
            boolean hidden = Modifier.isPrivate(method.getModifiers());
            Check.due(method + " has a name of its own", hidden && open.contains(method.getName()), false);
        }
        Check.due("fields that are static are final", Pattern.compile("static (?!final|boolean \\w+\\(|int \\w+\\(|long \\w+\\("
            + "|void \\w+\\()").matcher(code).find(), false);
    }

    private static void methodLengths(String code) {
        int begin = -1;
        String[] lines = code.split("\n");
        for (int line = 0; line < lines.length; line++) {
            if (lines[line].matches("( {4}| {8})\\S.*\\) \\{") && !lines[line].contains(" class ")) {
                begin = line;
            } else if (begin >= 0 && lines[line].matches("( {4}| {8})\\}")) {
                Check.due("a method's lines: " + lines[begin].trim(), line - begin < 60, true);
                begin = -1;
            }
        }
    }
}
