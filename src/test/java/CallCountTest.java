import java.lang.reflect.InvocationTargetException;
import java.lang.reflect.Method;
import java.net.URL;
import java.net.URLClassLoader;
import java.nio.file.Files;
import java.nio.file.Path;
import java.util.ArrayList;
import java.util.List;
import java.util.Set;
import java.util.regex.Matcher;
import java.util.regex.Pattern;
import java.util.stream.Stream;
import javax.tools.ToolProvider;

/**
 * "An object is used for at most 512 calls after it has been made; what later calls answer is free":
 * so no test may ask for more. The other tests are run once again, with a copy of the class that
 * counts the calls of each object and throws at the 513th.
 */
public final class CallCountTest {
    private static final int CALLS = 512;
    /**
     * CompiledTest and LanguageTest judge no answers, but how the class itself is written, and that no
     * call ever throws, also none of the later ones.
     */
    private static final Set<String> LEFT_OUT = Set.of("CallCountTest", "CompiledTest", "LanguageTest");
    private static final String[] COUNTING = {
        "    private int callsSoFar;",
        "    private int callsInside;",
        "    private void countIn() {",
        "        if (callsInside == 0 && ++callsSoFar > " + CALLS + ") {",
        "            throw new IllegalStateException(\"an object is used for more than " + CALLS + " calls\");",
        "        }",
        "        callsInside++;",
        "    }"};

    public static void main(String[] args) throws Exception {
        Path root = Path.of(System.getProperty("project.root", "."));
        Path tests = root.resolve("src/test/java");
        Path made = Files.createTempDirectory("counted");
        Path copy = made.resolve("CodedRelays.java");
        Files.writeString(copy, counting(Files.readString(root.resolve("src/main/java/CodedRelays.java"))));
        List<String> names = names(tests);
        compile(made, tests, copy, names);
        int wrong = names.isEmpty() ? 1 : 0;
        wrong += noticesTheNextCall(made) ? 0 : 1;
        for (String name : names) {
            wrong += passes(made, name) ? 0 : 1;
        }
        System.out.println(wrong == 0 ? "no object is used for more than " + CALLS + " calls" : wrong + " faults");
        if (wrong != 0) {
            System.exit(1);
        }
    }

    private static List<String> names(Path tests) throws Exception {
        List<String> names = new ArrayList<>();
        try (Stream<Path> files = Files.list(tests)) {
            files.map(file -> file.getFileName().toString()).filter(file -> file.endsWith("Test.java"))
                .map(file -> file.substring(0, file.length() - ".java".length()))
                .filter(name -> !LEFT_OUT.contains(name)).sorted().forEach(names::add);
        }
        return names;
    }

    /** Each public method counts, and then calls what it was; a call from inside does not count. */
    private static String counting(String source) {
        Matcher head = Pattern.compile("(?m)^    public (int|long) (\\w+)\\(([^)]*)\\) \\{$").matcher(source);
        StringBuilder changed = new StringBuilder();
        while (head.find()) {
            String type = head.group(1);
            String name = head.group(2);
            String values = head.group(3).replaceAll("(?:int|boolean) (\\w+)", "$1");
            String counted = "    public " + type + " " + name + "(" + head.group(3) + ") {\n        countIn();\n        "
                + type + " answer = " + name + "Itself(" + values + ");\n        callsInside--;\n"
                + "        return answer;\n    }\n\n    private " + type + " " + name + "Itself(" + head.group(3) + ") {";
            head.appendReplacement(changed, Matcher.quoteReplacement(counted));
        }
        head.appendTail(changed);
        String begin = "public final class CodedRelays {\n";
        return changed.toString().replace(begin, begin + String.join("\n", COUNTING) + "\n");
    }

    private static void compile(Path made, Path tests, Path copy, List<String> names) {
        List<String> words = new ArrayList<>(List.of("-nowarn", "-encoding", "UTF-8", "-d", made.toString(),
            "-sourcepath", tests.toString(), copy.toString()));
        for (String name : names) {
            words.add(tests.resolve(name + ".java").toString());
        }
        if (ToolProvider.getSystemJavaCompiler().run(null, null, null, words.toArray(new String[0])) != 0) {
            throw new IllegalStateException("the copy that counts cannot be compiled");
        }
    }

    private static boolean noticesTheNextCall(Path made) throws Exception {
        // Not by the loader of this class, for that one knows the class that does not count.
        URL[] places = {made.toUri().toURL()};
        Class<?> counted = new URLClassLoader(places, ClassLoader.getPlatformClassLoader()).loadClass("CodedRelays");
        Object x = counted.getConstructor().newInstance();
        Method call = counted.getMethod("read");
        for (int i = 0; i < CALLS; i++) {
            call.invoke(x);
        }
        try {
            call.invoke(x);
        } catch (InvocationTargetException thrown) {
            return true;
        }
        System.out.println("call " + (CALLS + 1) + " is not noticed");
        return false;
    }

    /** Each test has a machine of its own, for tests end it themselves. */
    private static boolean passes(Path made, String name) throws Exception {
        List<String> words = new ArrayList<>(List.of(Path.of(System.getProperty("java.home"), "bin", "java").toString(),
            "-cp", made.toString()));
        for (String property : List.of("project.root", "shared.root", "java.io.tmpdir")) {
            if (System.getProperty(property) != null) {
                words.add("-D" + property + "=" + System.getProperty(property));
            }
        }
        words.add(name);
        System.out.println("counted: " + name);
        return new ProcessBuilder(words).inheritIO().start().waitFor() == 0;
    }
}
