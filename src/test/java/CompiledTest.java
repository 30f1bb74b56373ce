import java.io.PrintWriter;
import java.io.StringWriter;
import java.net.URI;
import java.nio.file.Files;
import java.nio.file.Path;
import java.util.ArrayList;
import java.util.List;
import java.util.Map;
import java.util.Set;
import java.util.TreeMap;
import java.util.TreeSet;
import java.util.regex.Matcher;
import java.util.regex.Pattern;
import java.util.spi.ToolProvider;
import java.util.stream.Stream;

/**
 * Rules of LANGUAGE.md that the compiled class shows: which functions of the library it calls (4),
 * that nothing is thrown or caught (6), that no method comes back to itself (8), and how deep calls
 * go (11).
 */
public final class CompiledTest {
    private static final int DEEPEST = 8;
    /** Of what rule 4 lists, what the class uses. */
    private static final Set<String> LIBRARY = Set.of(
        "java/lang/Object.\"<init>\":()V", "java/lang/Integer.bitCount:(I)I", "java/util/Arrays.fill:([II)V",
        "java/lang/System.arraycopy:(Ljava/lang/Object;ILjava/lang/Object;II)V");
    private static final Pattern RULED_OUT = Pattern.compile(
        "\\b(athrow|monitorenter|monitorexit|invokedynamic|invokeinterface|instanceof|checkcast|Exception table)\\b");

    private static final Map<String, Set<String>> CALLS = new TreeMap<>();
    private static int wrong = 0;

    public static void main(String[] args) throws Exception {
        for (Path file : classFiles()) {
            read(printed(file), file.getFileName().toString().replace(".class", ""));
        }
        int deepest = 0;
        for (String method : CALLS.keySet()) {
            deepest = Math.max(deepest, depth(method, new ArrayList<>()));
        }
        if (deepest > DEEPEST || deepest == 0) {
            fault("calls go " + deepest + " deep");
        }
        System.out.println(wrong == 0 ? CALLS.size() + " methods, calls at most " + deepest + " deep" : wrong + " faults");
        if (wrong != 0) {
            System.exit(1);
        }
    }

    private static void fault(String words) {
        wrong++;
        System.out.println(words);
    }

    private static List<Path> classFiles() throws Exception {
        URI place = CodedRelays.class.getProtectionDomain().getCodeSource().getLocation().toURI();
        try (Stream<Path> files = Files.list(Path.of(place))) {
            return files.filter(file -> file.getFileName().toString().matches("CodedRelays(\\$\\w+)?\\.class"))
                .sorted().toList();
        }
    }

    private static List<String> printed(Path file) {
        StringWriter words = new StringWriter();
        PrintWriter out = new PrintWriter(words);
        ToolProvider javap = ToolProvider.findFirst("javap").orElseThrow();
        if (javap.run(out, out, "-c", "-p", "-s", file.toString()) != 0) {
            throw new IllegalStateException(words.toString());
        }
        return words.toString().lines().toList();
    }

    /** Notes what each method of a class calls; a head is followed by a line with its descriptor. */
    private static void read(List<String> lines, String name) {
        Pattern head = Pattern.compile("^  .*?([\\w$]+)\\(.*\\);$");
        Pattern call = Pattern.compile("\\binvoke\\w+ .*// \\w*Method (?:([^.:]+)\\.)?([^.:]+:\\S+)$");
        String method = "";
        for (int i = 0; i < lines.size(); i++) {
            Matcher begins = head.matcher(lines.get(i));
            Matcher calls = call.matcher(lines.get(i));
            Matcher ruledOut = RULED_OUT.matcher(lines.get(i));
            if (ruledOut.find()) {
                fault(method + " has " + ruledOut.group());
            } else if (begins.matches()) {
                String own = begins.group(1).equals(name) ? "\"<init>\"" : begins.group(1);
                method = name + "." + own + ":" + lines.get(i + 1).trim().replace("descriptor: ", "");
                CALLS.put(method, new TreeSet<>());
            } else if (calls.find()) {
                String called = (calls.group(1) == null ? name : calls.group(1)) + "." + calls.group(2);
                note(method, called);
            } else if (lines.get(i).contains(" invoke")) {
                fault(method + " calls what is not understood: " + lines.get(i));
            }
        }
    }

    private static void note(String method, String called) {
        if (called.startsWith("CodedRelays")) {
            CALLS.get(method).add(called);
        } else if (!LIBRARY.contains(called)) {
            fault(method + " calls " + called);
        }
    }

    /** How many calls stand open at once when this one is the first. */
    private static int depth(String method, List<String> open) {
        if (open.contains(method)) {
            fault(method + " comes back to itself by " + open);
            return 0;
        }
        Set<String> called = CALLS.get(method);
        if (called == null) {
            fault("no such method: " + method);
            return 0;
        }
        open.add(method);
        int deepest = 0;
        for (String next : called) {
            deepest = Math.max(deepest, depth(next, open));
        }
        open.remove(open.size() - 1);
        return deepest + 1;
    }
}
