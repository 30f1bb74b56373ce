import java.lang.annotation.ElementType;
import java.lang.annotation.Retention;
import java.lang.annotation.RetentionPolicy;
import java.lang.annotation.Target;
import java.lang.reflect.Method;
import java.nio.file.Files;
import java.nio.file.Path;
import java.util.ArrayList;
import java.util.Comparator;
import java.util.HashSet;
import java.util.List;
import java.util.Map;
import java.util.Set;
import java.util.TreeMap;
import java.util.function.Supplier;
import java.util.function.ToIntFunction;
import java.util.regex.Matcher;
import java.util.regex.Pattern;

/**
 * Tests of single sentences of the document. Each test bears the words that it tests, and these
 * must stand in the document; each sentence there must have a test, or be listed as one that names
 * no boundary.
 */
abstract class Sentences extends Steering {
    /** The words of the document that a method tests; promise 0 is the Description. */
    @Retention(RetentionPolicy.RUNTIME)
    @Target(ElementType.METHOD)
    @interface Says {
        int promise() default 0;

        String value();
    }

    private static String title = "";
    private static int asked = 0;
    private static int wrong = 0;

    /** Runs all tests of a class, compares their words with the promises first to last, and ends. */
    static void runAll(Class<?> tests, int first, int last, String... withoutBoundary) throws Exception {
        List<Method> methods = new ArrayList<>();
        for (Method method : tests.getDeclaredMethods()) {
            if (method.isAnnotationPresent(Says.class)) {
                methods.add(method);
            }
        }
        methods.sort(Comparator.comparingInt(Sentences::promiseOf).thenComparing(Method::getName));
        for (Method method : methods) {
            title = promiseOf(method) + ", " + method.getName();
            asked = 0;
            method.setAccessible(true);
            method.invoke(null);
            if (asked == 0) {
                fault("asks nothing");
            }
        }
        title = "the document";
        compareWithDocument(methods, first, last, new HashSet<>(List.of(withoutBoundary)));
        System.out.println(methods.size() + " sentences, " + wrong + " faults");
        if (wrong != 0 || methods.isEmpty()) {
            System.exit(1);
        }
    }

    private static int promiseOf(Method method) {
        return method.getAnnotation(Says.class).promise();
    }

    // ---- the document

    private static void compareWithDocument(List<Method> methods, int first, int last, Set<String> listed)
            throws Exception {
        Map<Integer, List<String>> document = sentences();
        Set<String> unused = new HashSet<>(listed);
        for (Method method : methods) {
            String words = method.getAnnotation(Says.class).value();
            if (document.getOrDefault(promiseOf(method), List.of()).stream().noneMatch(s -> s.contains(words))) {
                fault("promise " + promiseOf(method) + " does not say: " + words);
            }
        }
        for (int promise = first; promise <= last; promise++) {
            for (String sentence : document.getOrDefault(promise, List.of("nothing of this number"))) {
                unused.remove(sentence);
                int number = promise;
                if (!listed.contains(sentence) && methods.stream().noneMatch(
                        m -> promiseOf(m) == number && sentence.contains(m.getAnnotation(Says.class).value()))) {
                    fault("no test for what promise " + promise + " says: " + sentence);
                }
            }
        }
        for (String sentence : unused) {
            fault("listed, but not said: " + sentence);
        }
    }

    /** The sentences of each promise, and of the Description as promise 0; a semicolon ends one too. */
    private static Map<Integer, List<String>> sentences() throws Exception {
        Map<Integer, List<String>> all = new TreeMap<>();
        String root = System.getProperty("shared.root", "../shared");
        Pattern head = Pattern.compile("## Promise (\\d+):.*");
        int section = -1;
        StringBuilder paragraph = new StringBuilder();
        List<String> lines = new ArrayList<>(Files.readAllLines(Path.of(root, "DOC.md")));
        lines.add("");
        for (String line : lines) {
            boolean begins = line.startsWith("- ");
            if (begins || line.isBlank() || line.startsWith("#") || line.startsWith("----") || line.startsWith("`")) {
                split(paragraph.toString(), all.computeIfAbsent(section, key -> new ArrayList<>()));
                paragraph.setLength(0);
            }
            Matcher matcher = head.matcher(line);
            if (line.startsWith("#")) {
                section = matcher.matches() ? Integer.parseInt(matcher.group(1)) : line.equals("## Description") ? 0 : -1;
            } else if (!line.startsWith("----") && !line.startsWith("`")) {
                paragraph.append(begins ? line.substring(2) : line).append(' ');
            }
        }
        return all;
    }

    private static void split(String paragraph, List<String> into) {
        for (String sentence : paragraph.trim().replaceAll("\\s+", " ").split("(?<=[.;]) ")) {
            if (!sentence.isEmpty()) {
                into.add(sentence);
            }
        }
    }

    // ---- answers

    static void fault(String words) {
        wrong++;
        System.out.println("promise " + title + ": " + words);
    }

    static void due(String what, long got, long want) {
        asked++;
        if (got != want) {
            fault(what + " answered " + got + ", due is " + want);
        }
    }

    /**
     * The call must answer the error, and an object on which it was made must then go on as another
     * one does on which it was not.
     */
    static void refused(Supplier<CodedRelays> made, String what, ToIntFunction<CodedRelays> call, int error) {
        CodedRelays x = made.get();
        due(what, call.applyAsInt(x), error);
        sameStory(what + " changes nothing", x, made.get());
    }

    interface CallWithValue {
        int answer(CodedRelays x, int value);
    }

    static void refusedValues(Supplier<CodedRelays> made, String what, CallWithValue call, int... values) {
        for (int value : values) {
            refused(made, what + " with v = " + value, x -> call.answer(x, value), BAD);
        }
        refused(made, what + " with the least int", x -> call.answer(x, Integer.MIN_VALUE), BAD);
    }

    static void sameStory(String what, CodedRelays one, CodedRelays other) {
        asked++;
        String first = story(one);
        String second = story(other);
        if (!first.equals(second)) {
            fault(what + ": not so, for " + first + " is not " + second);
        }
    }

    /** All that can be told of an object with its text and its slots. The object is used up by this. */
    static String story(CodedRelays x) {
        StringBuilder words = new StringBuilder();
        tell(x, words);
        words.append("text ").append(x.faultPosition()).append(' ').append(x.read());
        words.append(' ').append(x.links()).append(' ').append(x.clearText());
        for (int slot = 0; slot < 2; slot++) {
            words.append(" slot ").append(x.restore(slot)).append(' ');
            tell(x, words);
        }
        return words.toString();
    }

    private static void tell(CodedRelays x, StringBuilder words) {
        int limit = x.setLimit(1);
        x.setLimit(limit);
        words.append("limit ").append(limit).append(" links ");
        for (int i = 0; i < x.links(); i++) {
            words.append(x.link(i, 0)).append(x.link(i, 1)).append(x.link(i, 2)).append(' ');
        }
        tellSums(x, words);
        // What is held inside and cannot be asked, as the count of each loss, shows when it goes on.
        x.run(7);
        tellSums(x, words);
        words.append("behaviors ");
        for (int i = 1; i < x.nodes(); i++) {
            words.append(x.setBehavior(i, 0));
        }
        words.append(" next ").append(x.checksum());
        words.append(" packets ").append(x.setPackets(4)).append(' ');
    }

    private static void tellSums(CodedRelays x, StringBuilder words) {
        words.append("checksum ").append(x.checksum()).append(" suspicions ");
        for (int i = 1; i < x.nodes(); i++) {
            words.append(x.sentRank(i)).append(',').append(x.suspicions(i)).append(' ');
        }
    }

    // ---- more networks

    /**
     * A busy network some rounds after it was kept in slot 0, with a text; slot 1 is empty. One of the
     * links that stay open has losses, and one payload is not as at first.
     */
    static CodedRelays lively() {
        CodedRelays x = network(4, 0, 1, 2, 1, 2, 0, 0, 2, 7, 2, 3, 0);
        x.setPayload(3, 200);
        keptBusy(x);
        x.keep(0);
        x.run(3);
        write(x, "0>3/2;b3=1;");
        return x;
    }

    /** Twenty links, the text as long as it can be, and node 1 cut off. */
    static CodedRelays full() {
        CodedRelays x = network(4, 0, 1, 0, 1, 3, 0);
        for (int i = 2; i < 20; i++) {
            x.addLink(i % 3, 3, i % 10);
        }
        x.setBehavior(1, CodedRelays.SILENT);
        x.run(9);
        x.setLimit(1);
        x.check(1, firstSuspicion(x, 1));
        for (int i = 0; i < 20; i++) {
            write(x, "b1=1;");
        }
        return x;
    }

    /** Way 0, 1, 2 without losses. */
    static CodedRelays line() {
        return network(3, 0, 1, 0, 1, 2, 0);
    }
}
