import java.lang.reflect.Method;
import java.lang.reflect.Modifier;
import java.net.URL;
import java.net.URLClassLoader;
import java.nio.file.Files;
import java.nio.file.Path;
import java.util.List;
import java.util.Set;
import java.util.TreeSet;
import java.util.regex.Matcher;
import java.util.regex.Pattern;
import javax.tools.ToolProvider;

/** The example of README.md answers what stands behind its calls, and its table names every call. */
public final class ReadmeTest {
    /** A call of the example with its answer: a number, or the name of a constant. */
    private static final Pattern CALL = Pattern.compile("^(relays\\.\\w+\\([^;]*\\)); +// ([A-Z_]+|-?\\d+): .*$");

    public static void main(String[] args) throws Exception {
        String readme = Files.readString(Path.of(System.getProperty("project.root", "."), "README.md"));
        Matcher example = Pattern.compile("(?s)```java\\n(.*?)```").matcher(readme);
        int wrong = example.find() ? answers(example.group(1)) : 1;
        wrong += named(readme);
        System.out.println(wrong == 0 ? "the example answers as it says" : wrong + " faults in README.md");
        if (wrong != 0) {
            System.exit(1);
        }
    }

    private static int answers(String example) throws Exception {
        StringBuilder code = new StringBuilder("public final class Example {\n");
        code.append("    public static int wrong() {\n        int wrong = 0;\n");
        int calls = 0;
        for (String line : example.split("\n")) {
            Matcher call = CALL.matcher(line);
            if (!call.matches()) {
                code.append(line).append('\n');
                continue;
            }
            calls++;
            String answer = Character.isLetter(call.group(2).charAt(0)) ? "CodedRelays." + call.group(2) : call.group(2);
            code.append("wrong += ReadmeTest.differs(\"").append(call.group(1)).append("\", ").append(call.group(1))
                .append(", ").append(answer).append(");\n");
        }
        code.append("        return wrong;\n    }\n}\n");
        return (Integer) compiled(code.toString()).getMethod("wrong").invoke(null) + (calls == 0 ? 1 : 0);
    }

    private static Class<?> compiled(String code) throws Exception {
        Path made = Files.createTempDirectory("readme");
        Path file = made.resolve("Example.java");
        Files.writeString(file, code);
        if (ToolProvider.getSystemJavaCompiler().run(null, null, null, "-cp", System.getProperty("java.class.path"),
                "-d", made.toString(), file.toString()) != 0) {
            throw new IllegalStateException("the example cannot be compiled");
        }
        return new URLClassLoader(new URL[] {made.toUri().toURL()}, ReadmeTest.class.getClassLoader()).loadClass("Example");
    }

    public static int differs(String call, int got, int want) {
        if (got != want) {
            System.out.println(call + " answered " + got + ", README.md says " + want);
        }
        return got != want ? 1 : 0;
    }

    private static int named(String readme) {
        Set<String> missing = new TreeSet<>();
        for (Method method : CodedRelays.class.getDeclaredMethods()) {
            if (Modifier.isPublic(method.getModifiers())) {
                missing.add(method.getName());
            }
        }
        for (String row : readme.lines().filter(line -> line.startsWith("| ")).toList()) {
            missing.removeAll(List.of(row.split("`")));
        }
        if (!missing.isEmpty()) {
            System.out.println("README.md does not name " + missing);
        }
        return missing.size();
    }
}
