import java.lang.management.ManagementFactory;
import java.lang.reflect.Constructor;
import java.lang.reflect.Field;
import java.lang.reflect.Method;
import java.lang.reflect.Modifier;
import java.nio.file.Files;
import java.nio.file.Path;
import java.util.ArrayList;
import java.util.List;
import java.util.Random;
import java.util.Set;
import java.util.TreeMap;
import java.util.TreeSet;
import java.util.regex.Matcher;
import java.util.regex.Pattern;

/**
 * What LANGUAGE.md asks of src/main/java/CodedRelays.java, as far as a test can tell: the face and
 * nothing beside it, none of the words that are ruled out, short methods, calls that make nothing,
 * and no call that throws, whatever it is given.
 */
public final class LanguageTest {
    private static final String[] METHODS = {
        "int setPackets(int)", "int setPayload(int,int)", "int setNodes(int)", "int addLink(int,int,int)",
        "int removeLink()", "int setBehavior(int,int)", "int setState(int)", "int setLimit(int)", "int run(int)",
        "int runUntil(int)", "int rounds()", "int nodes()", "int links()", "int link(int,int)", "int rank(int)",
        "int vector(int,int)", "int payload(int,int)", "int fates(int,int)", "int lastSent(int)",
        "int endSum(int,boolean)", "int differing()", "int knows(int)", "int solve(int,int)", "int wrong()",
        "int combination(int,int)", "int commonRank(int,int)", "int suspect(int,int)", "int suspicions(int)",
        "int check(int,int)", "int checkRandomly(int)", "int marks(int)", "int isCutOff(int)", "int sentRank(int)",
        "int flow(int)", "int neededLink(int)", "int append(int)", "int clearText()", "int faultPosition()",
        "int read()", "int keep(int)", "int restore(int)", "long checksum()"};
    private static final String[] CONSTANTS = {
        "BAD_VALUE -1", "FULL -2", "NOT_POSSIBLE -3", "NONE -4", "HONEST 0", "LAZY 1", "HOLDING 2", "ALTERING 3",
        "SILENT 4", "LOST 0", "NEW 1", "REDUNDANT 2", "CONFLICTING 3"};
    private static final String[] RULED_OUT = {
        "\\bthrow\\b", "\\bthrows\\b", "\\btry\\b", "\\bcatch\\b", "\\bsynchronized\\b", "\\bassert\\b", "->", "::",
        "\\bpackage\\b", "\\bprotected\\b", "\\bvolatile\\b", "\\bnative\\b", "\\bstrictfp\\b", "\\w+Exact\\b",
        "\\bhashCode\\b", "\\btoString\\b", "\\bSystem\\.(?!arraycopy)", "\\bThread\\b", "\\bObject\\b", "@"};

    private static int wrong = 0;

    public static void main(String[] args) throws Exception {
        String root = System.getProperty("project.root", ".");
        String source = Files.readString(Path.of(root, "src/main/java/CodedRelays.java"));
        face();
        nested();
        words(source);
        lengths(source);
        room();
        anything();
        System.out.println(wrong == 0 ? "the rules are kept" : wrong + " rules are not kept");
        if (wrong != 0) {
            System.exit(1);
        }
    }

    private static void fault(String words) {
        wrong++;
        System.out.println(words);
    }

    private static void same(String what, Set<String> got, Set<String> want) {
        if (!got.equals(want)) {
            fault(what + " are " + got + ", due are " + want);
        }
    }

    private static void face() throws Exception {
        Class<?> face = CodedRelays.class;
        if (face.getModifiers() != (Modifier.PUBLIC | Modifier.FINAL)) {
            fault("the class is not public and final alone");
        }
        Set<String> methods = new TreeSet<>();
        Set<String> publicNames = new TreeSet<>();
        Set<String> privateNames = new TreeSet<>();
        for (Method m : face.getDeclaredMethods()) {
            if (Modifier.isPrivate(m.getModifiers())) {
                privateNames.add(m.getName());
                continue;
            }
            publicNames.add(m.getName());
            if (m.getModifiers() != Modifier.PUBLIC) {
                fault(m + " is not public alone");
            }
            List<String> types = new ArrayList<>();
            for (Class<?> type : m.getParameterTypes()) {
                types.add(type.getName());
            }
            methods.add(m.getReturnType().getName() + " " + m.getName() + "(" + String.join(",", types) + ")");
        }
        same("methods", methods, new TreeSet<>(List.of(METHODS)));
        for (Class<?> inside : face.getDeclaredClasses()) {
            for (Method m : inside.getDeclaredMethods()) {
                privateNames.add(m.getName());
            }
        }
        privateNames.retainAll(publicNames);
        same("methods inside with public names", privateNames, Set.of());
        Set<String> constants = new TreeSet<>();
        for (Field f : face.getDeclaredFields()) {
            if (!Modifier.isPrivate(f.getModifiers())) {
                constants.add(f.getName() + " " + f.get(null));
            }
        }
        same("constants", constants, new TreeSet<>(List.of(CONSTANTS)));
        Constructor<?>[] made = face.getDeclaredConstructors();
        if (made.length != 1 || made[0].getParameterCount() != 0 || made[0].getModifiers() != Modifier.PUBLIC) {
            fault("there is not just the one public constructor");
        }
    }

    private static void nested() {
        List<Class<?>> all = new ArrayList<>(List.of(CodedRelays.class));
        all.addAll(List.of(CodedRelays.class.getDeclaredClasses()));
        if (all.size() > 12) {
            fault("there are " + all.size() + " classes");
        }
        for (Class<?> one : all) {
            if (one != CodedRelays.class && !Modifier.isStatic(one.getModifiers())) {
                fault(one + " is not static");
            }
            int fields = 0;
            for (Field f : one.getDeclaredFields()) {
                boolean constant = Modifier.isStatic(f.getModifiers());
                if (constant && !Modifier.isFinal(f.getModifiers())) {
                    fault(f + " is static and not final");
                }
                fields += constant ? 0 : 1;
            }
            if (fields > 20) {
                fault(one + " has " + fields + " fields");
            }
            for (Method m : one.getDeclaredMethods()) {
                if (m.getParameterCount() > 7) {
                    fault(m + " has more than seven parameters");
                }
            }
        }
    }

    private static void words(String source) {
        String code = source.replaceAll("(?s)/\\*.*?\\*/", " ").replaceAll("//[^\\n]*", " ");
        for (String word : RULED_OUT) {
            Matcher matcher = Pattern.compile(word).matcher(code);
            if (matcher.find()) {
                fault("ruled out, but used: " + matcher.group());
            }
        }
        Matcher imports = Pattern.compile("import ([^;]+);").matcher(code);
        while (imports.find()) {
            if (!Set.of("java.util.Arrays", "java.util.ArrayList", "java.util.List").contains(imports.group(1))) {
                fault("imported: " + imports.group(1));
            }
        }
        for (char sign : source.toCharArray()) {
            if (sign > 126 || sign < 32 && sign != '\n') {
                fault("sign " + (int) sign);
            }
        }
    }

    /** A method begins with a line that ends in ") {" at the depth of members, and ends with its "}". */
    private static void lengths(String source) {
        String[] lines = source.split("\n");
        Pattern head = Pattern.compile("^( {4}| {8})(?!if|for|while|switch|\\}| )[^=]*\\) \\{$");
        for (int i = 0; i < lines.length; i++) {
            Matcher matcher = head.matcher(lines[i]);
            if (!matcher.matches()) {
                continue;
            }
            int end = i;
            while (end < lines.length && !lines[end].equals(matcher.group(1) + "}")) {
                end++;
            }
            if (end - i > 60) {
                fault("more than sixty lines: " + lines[i].trim());
            }
        }
    }

    /** The dearest calls make nothing, so that a run needs no more room than its objects do. */
    private static void room() {
        com.sun.management.ThreadMXBean bean =
            (com.sun.management.ThreadMXBean) ManagementFactory.getThreadMXBean();
        CodedRelays x = full();
        x.keep(0);
        x.keep(1);
        use(x);
        long before = bean.getCurrentThreadAllocatedBytes();
        for (int i = 0; i < 30; i++) {
            use(x);
        }
        long made = bean.getCurrentThreadAllocatedBytes() - before;
        if (made > 10_000) {
            fault("thirty times fourteen calls made " + made + " bytes");
        }
        before = bean.getCurrentThreadAllocatedBytes();
        CodedRelays y = new CodedRelays();
        y.keep(0);
        y.keep(1);
        made = bean.getCurrentThreadAllocatedBytes() - before;
        if (made > 40_000) {
            fault("an object with both slots takes " + made + " bytes");
        }
    }

    private static CodedRelays full() {
        CodedRelays x = new CodedRelays();
        x.setNodes(10);
        x.setPackets(8);
        for (int i = 0; i < 20; i++) {
            x.addLink(i % 9, i % 9 + 1, i % 4);
        }
        for (char sign : "b1=1;b2=2;b3=3;".toCharArray()) {
            x.append(sign);
        }
        return x;
    }

    private static void use(CodedRelays x) {
        x.run(50);
        x.runUntil(9);
        x.flow(9);
        x.neededLink(9);
        x.suspicions(3);
        x.checkRandomly(50);
        x.keep(0);
        x.keep(1);
        x.restore(0);
        x.commonRank(3, 4);
        x.wrong();
        x.checksum();
        x.faultPosition();
        x.read();
    }

    /** Any arguments, in whatever state, also long after the 512th call. */
    private static void anything() throws Exception {
        Random dice = new Random(43);
        TreeMap<String, Method> methods = new TreeMap<>();
        for (Method m : CodedRelays.class.getDeclaredMethods()) {
            if (Modifier.isPublic(m.getModifiers())) {
                methods.put(m.toString(), m);
            }
        }
        List<Method> list = new ArrayList<>(methods.values());
        for (int object = 0; object < 30; object++) {
            CodedRelays x = object % 2 == 0 ? full() : new CodedRelays();
            for (int i = 0; i < 5000; i++) {
                Method m = list.get(dice.nextInt(list.size()));
                try {
                    m.invoke(x, arguments(m, dice));
                } catch (java.lang.reflect.InvocationTargetException thrown) {
                    fault(m + " threw " + thrown.getCause());
                    return;
                }
            }
        }
    }

    private static Object[] arguments(Method m, Random dice) {
        int[] odd = {Integer.MIN_VALUE, Integer.MAX_VALUE, -1, 255, 256, 1 << 16, 100};
        Object[] args = new Object[m.getParameterCount()];
        for (int i = 0; i < args.length; i++) {
            if (m.getParameterTypes()[i] == boolean.class) {
                args[i] = dice.nextBoolean();
            } else {
                args[i] = dice.nextInt(8) == 0 ? odd[dice.nextInt(odd.length)] : dice.nextInt(22) - 1;
            }
        }
        return args;
    }
}
