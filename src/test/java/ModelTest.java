import java.lang.reflect.Method;
import java.math.BigInteger;
import java.util.ArrayList;
import java.util.Arrays;
import java.util.HashMap;
import java.util.List;
import java.util.Map;
import java.util.Random;
import java.util.Set;
import java.util.TreeSet;
import java.util.regex.Matcher;
import java.util.regex.Pattern;

/**
 * Long runs of random calls, each answered by CodedRelays and by a model that follows the words of
 * the document as literally as it can (subsets, cuts and histories in full). After each call the
 * checksums are compared too, so that an error that changes something is noticed.
 */
public final class ModelTest {
    private static final int OBJECTS = 1500;
    /** Each is followed by checksum(), so that an object comes just to its 512th call. */
    private static final int CALLS = 256;

    private static int wrong = 0;
    private static final Map<String, Method> REAL = new HashMap<>();
    private static final Map<String, Method> MODEL = new HashMap<>();
    private static final Map<String, Set<String>> SEEN = new HashMap<>();

    public static void main(String[] args) throws Exception {
        for (Method m : CodedRelays.class.getDeclaredMethods()) {
            if (java.lang.reflect.Modifier.isPublic(m.getModifiers())) {
                REAL.put(m.getName(), m);
            }
        }
        for (Method m : Model.class.getDeclaredMethods()) {
            if (java.lang.reflect.Modifier.isPublic(m.getModifiers())) {
                MODEL.put(m.getName(), m);
            }
        }
        if (!REAL.keySet().equals(MODEL.keySet())) {
            wrong++;
            System.out.println("methods differ: " + REAL.keySet() + " and " + MODEL.keySet());
        }
        for (int i = 0; i < OBJECTS && wrong == 0; i++) {
            new Session(i).play();
        }
        requireSeen();
        System.out.println(wrong == 0 ? "class and model agree" : wrong + " answers differ");
        if (wrong != 0) {
            System.exit(1);
        }
    }

    /** The random calls are worth little if they never come to what a promise names. */
    private static void requireSeen() {
        String[] wanted = {
            "setPackets BAD ok", "setPayload BAD zero ok", "setNodes BAD ok", "addLink BAD FULL zero ok",
            "removeLink NOT zero ok", "setBehavior BAD zero ok", "setState BAD ok", "setLimit BAD ok",
            "run BAD zero ok", "runUntil BAD zero ok NONE", "rounds zero ok", "nodes ok", "links zero ok",
            "link BAD zero ok", "rank BAD zero ok", "vector BAD ok", "payload BAD ok", "fates BAD zero ok",
            "lastSent BAD ok NONE", "endSum BAD zero ok", "differing zero ok", "knows BAD zero ok",
            "solve BAD ok NONE", "wrong zero ok", "combination BAD zero ok NONE", "commonRank BAD zero ok",
            "suspect BAD zero ok", "suspicions BAD zero ok", "check BAD NOT zero ok",
            "checkRandomly BAD zero ok", "marks BAD zero ok", "isCutOff BAD zero ok", "sentRank BAD zero ok",
            "flow BAD zero ok", "neededLink BAD zero ok NONE", "append BAD FULL ok", "clearText zero ok",
            "faultPosition zero ok NONE", "read NOT zero ok", "keep BAD zero ok", "restore BAD NOT zero ok",
            "checksum ok"};
        for (String line : wanted) {
            String[] words = line.split(" ");
            for (int i = 1; i < words.length; i++) {
                if (!SEEN.getOrDefault(words[0], Set.of()).contains(words[i])) {
                    wrong++;
                    System.out.println("no call of " + words[0] + " came to " + words[i]);
                }
            }
        }
    }

    private static final class Session {
        final int number;
        final Random dice;
        final CodedRelays real = new CodedRelays();
        final Model model = new Model();
        final List<String> said = new ArrayList<>();

        Session(int number) {
            this.number = number;
            this.dice = new Random(number);
        }

        void play() throws Exception {
            // Some sessions change the network all the time, others build it once and let it run.
            boolean restless = number % 3 == 0;
            if (!restless) {
                build();
            }
            while (said.size() < CALLS && wrong == 0) {
                int kind = dice.nextInt(100);
                if (kind < (restless ? 25 : 2)) {
                    change();
                } else if (kind < (restless ? 30 : 4)) {
                    writeText();
                } else if (kind < 55) {
                    move();
                } else {
                    ask();
                }
            }
        }

        void build() throws Exception {
            call("setNodes", 3 + dice.nextInt(8));
            call("setPackets", 2 + dice.nextInt(7));
            int links = 1 + dice.nextInt(20);
            for (int i = 0; i < links; i++) {
                int from = dice.nextInt(model.nodes() - 1);
                int to = from + 1 + dice.nextInt(model.nodes() - from - 1);
                call("addLink", from, to, dice.nextInt(2) * dice.nextInt(10));
            }
            for (int i = 1; i < model.nodes(); i++) {
                call("setBehavior", i, dice.nextInt(2) * dice.nextInt(5));
            }
        }

        void change() throws Exception {
            int n = model.nodes();
            switch (dice.nextInt(9)) {
                case 0: call("setPackets", near(2, 8)); break;
                case 1: call("setPayload", near(0, 7), near(0, 255)); break;
                case 2: call("setNodes", near(3, 10)); break;
                case 3: case 4: case 5: call("addLink", near(0, n - 1), near(0, n - 1), near(0, 9)); break;
                case 6: call("removeLink"); break;
                default: call("setBehavior", near(0, n - 1), near(0, 4)); break;
            }
        }

        void writeText() throws Exception {
            if (dice.nextInt(3) == 0) {
                call("clearText");
            }
            int entries = dice.nextInt(10) == 0 ? 22 : dice.nextInt(4);
            for (int i = 0; i < entries; i++) {
                write(entry());
            }
            call("faultPosition");
            call("read");
            if (dice.nextBoolean()) {
                call("clearText");
                call("faultPosition");
                call("read");
            }
        }

        String entry() {
            int n = model.nodes();
            String text;
            if (dice.nextInt(3) == 0) {
                text = "b" + (1 + dice.nextInt(n - 1)) + "=" + dice.nextInt(5) + ";";
            } else {
                int from = dice.nextInt(n - 1);
                int to = from + 1 + dice.nextInt(n - from - 1);
                text = from + ">" + to + (dice.nextBoolean() ? "/" + dice.nextInt(10) : "") + ";";
            }
            if (dice.nextInt(6) == 0) {
                String signs = "0123456789>/b=;b;> a~";
                int at = dice.nextInt(text.length());
                text = text.substring(0, at) + signs.charAt(dice.nextInt(signs.length()))
                    + text.substring(at + dice.nextInt(2));
            }
            if (dice.nextInt(20) == 0) {
                text = text.substring(0, dice.nextInt(text.length()));
            }
            return text;
        }

        void write(String text) throws Exception {
            for (int i = 0; i < text.length(); i++) {
                call("append", (int) text.charAt(i));
            }
        }

        void move() throws Exception {
            int n = model.nodes();
            int all = (1 << model.s.k) - 1;
            switch (dice.nextInt(10)) {
                case 0: case 1: case 2: call("run", dice.nextInt(10) == 0 ? near(1, 50) : 1 + dice.nextInt(3)); break;
                case 3: call("runUntil", near(0, n - 1)); break;
                case 4: call("setState", dice.nextInt(5) == 0 ? -dice.nextInt(3) : dice.nextInt() & Integer.MAX_VALUE); break;
                case 5: call("setLimit", near(1, 9)); break;
                case 6: call("check", near(0, n - 1), near(1, all)); break;
                case 7: call("checkRandomly", dice.nextBoolean() ? near(1, 50) : 1 + dice.nextInt(3)); break;
                case 8: call("keep", near(0, 1)); break;
                default: call(dice.nextInt(3) == 0 ? "restore" : "keep", near(0, 1)); break;
            }
        }

        void ask() throws Exception {
            int n = model.nodes();
            int l = model.links();
            int all = (1 << model.s.k) - 1;
            switch (dice.nextInt(30)) {
                case 0: call("rounds"); break;
                case 1: call("nodes"); break;
                case 2: call("links"); break;
                case 3: call("link", near(0, l - 1), near(0, 2)); break;
                case 4: call("rank", near(0, n - 1)); break;
                case 5: call("vector", near(0, n - 1), near(0, model.s.k - 1)); break;
                case 6: call("payload", near(0, n - 1), near(0, model.s.k - 1)); break;
                case 7: call("fates", near(0, l - 1), near(0, 3)); break;
                case 8: call("lastSent", near(0, l - 1)); break;
                case 9: call("endSum", near(0, l - 1), dice.nextBoolean()); break;
                case 10: call("differing"); break;
                case 11: call("knows", near(0, n - 1)); break;
                case 12: case 13: call("solve", near(0, n - 1), near(0, model.s.k - 1)); break;
                case 14: call("wrong"); break;
                case 15: case 16: call("combination", near(0, n - 1), near(0, all)); break;
                case 17: call("commonRank", near(0, n - 1), near(0, n - 1)); break;
                case 18: call("suspect", near(0, n - 1), near(1, all)); break;
                case 19: call("suspicions", near(0, n - 1)); break;
                case 20: call("marks", near(0, n - 1)); break;
                case 21: call("isCutOff", near(0, n - 1)); break;
                case 22: call("sentRank", near(0, n - 1)); break;
                case 23: case 24: call("flow", near(0, n - 1)); break;
                case 25: case 26: call("neededLink", near(0, n - 1)); break;
                case 27: call("append", near(32, 126)); break;
                case 28: call("clearText"); break;
                default: call("faultPosition"); break;
            }
        }

        /** Mostly a value of the range; sometimes one of its ends, or one that is out of it. */
        int near(int low, int high) {
            int kind = dice.nextInt(24);
            if (kind == 0) {
                return low - 1;
            }
            if (kind == 1) {
                return high + 1;
            }
            if (kind == 2) {
                return dice.nextBoolean() ? Integer.MAX_VALUE : Integer.MIN_VALUE;
            }
            if (high < low || kind == 3) {
                return low;
            }
            return kind == 4 ? high : low + dice.nextInt(high - low + 1);
        }

        void call(String name, Object... args) throws Exception {
            if (said.size() >= CALLS) {
                return;
            }
            long got = ((Number) REAL.get(name).invoke(real, args)).longValue();
            long want = ((Number) MODEL.get(name).invoke(model, args)).longValue();
            String words = name + Arrays.toString(args);
            said.add(words);
            String outcome = got == -1 ? "BAD" : got == -2 ? "FULL" : got == -3 ? "NOT" : got == -4 ? "NONE"
                : got == 0 ? "zero" : "ok";
            SEEN.computeIfAbsent(name, key -> new TreeSet<>()).add(outcome);
            if (got != want) {
                fault(words + " answered " + got + ", the model " + want);
            } else if (real.checksum() != model.checksum()) {
                fault("the checksums differ after " + words);
            } else {
                SEEN.computeIfAbsent("checksum", key -> new TreeSet<>()).add("ok");
            }
        }

        void fault(String words) {
            wrong++;
            System.out.println("session " + number + ": " + words);
            System.out.println("  calls: " + said);
        }
    }

    /** What a link has carried: a vector, a payload, and what became of it. */
    private record Sent(int vector, int payload, int fate) { }

    private static final class State {
        int k = 4;
        int[] payloads = {17, 34, 51, 68, 85, 102, 119, 136};
        int n = 5;
        List<int[]> links = new ArrayList<>();
        int[] behaviors = new int[10];
        long random = 1;
        int limit = 3;
        int rounds;
        List<List<int[]>> sums;
        List<Map<Integer, Integer>> tables;
        List<Set<Integer>> sentBy;
        List<List<Sent>> histories;
        int[] marks;
        boolean[] cut;

        State() {
            begin();
        }

        void begin() {
            rounds = 0;
            sums = new ArrayList<>();
            tables = new ArrayList<>();
            sentBy = new ArrayList<>();
            histories = new ArrayList<>();
            for (int i = 0; i < n; i++) {
                sums.add(new ArrayList<>());
                sentBy.add(new TreeSet<>());
                tables.add(null);
            }
            for (int i = 0; i < k; i++) {
                sums.get(0).add(new int[] {1 << i, payloads[i]});
            }
            for (int i = 0; i < n; i++) {
                tables.set(i, table(sums.get(i)));
            }
            for (int i = 0; i < links.size(); i++) {
                histories.add(new ArrayList<>());
            }
            marks = new int[n];
            cut = new boolean[n];
        }

        State copy() {
            State c = new State();
            c.k = k;
            c.payloads = payloads.clone();
            c.n = n;
            c.links = new ArrayList<>(links);
            c.behaviors = behaviors.clone();
            c.random = random;
            c.limit = limit;
            c.rounds = rounds;
            c.sums = new ArrayList<>();
            c.sentBy = new ArrayList<>();
            for (int i = 0; i < n; i++) {
                c.sums.add(new ArrayList<>(sums.get(i)));
                c.sentBy.add(new TreeSet<>(sentBy.get(i)));
            }
            c.tables = new ArrayList<>(tables);
            c.histories = new ArrayList<>();
            for (List<Sent> history : histories) {
                c.histories.add(new ArrayList<>(history));
            }
            c.marks = marks.clone();
            c.cut = cut.clone();
            return c;
        }

        /** For each vector that is a sum of some of the sums, the set of these. */
        static Map<Integer, Integer> table(List<int[]> sums) {
            Map<Integer, Integer> table = new HashMap<>();
            for (int set = 0; set < 1 << sums.size(); set++) {
                table.put(total(sums, set, 0), set);
            }
            return table;
        }

        static int total(List<int[]> sums, int set, int which) {
            int total = 0;
            for (int i = 0; i < sums.size(); i++) {
                if ((set & 1 << i) != 0) {
                    total ^= sums.get(i)[which];
                }
            }
            return total;
        }

        boolean open(int link) {
            return !cut[links.get(link)[0]] && !cut[links.get(link)[1]];
        }

        boolean relay(int node) {
            return node > 0 && node < n && links.stream().anyMatch(link -> link[0] == node);
        }

        int random(int below) {
            random = BigInteger.valueOf(random).multiply(BigInteger.valueOf(1103515245))
                .add(BigInteger.valueOf(12345)).mod(BigInteger.ONE.shiftLeft(31)).longValueExact();
            return (int) ((random >> 16) % below);
        }

        int choose(int m) {
            return random((int) Math.pow(2, m) - 1) + 1;
        }

        int round() {
            int[][] under = new int[links.size()][];
            for (int node = 0; node < n; node++) {
                List<int[]> had = sums.get(node);
                for (int i = 0; i < links.size(); i++) {
                    if (had.isEmpty() || links.get(i)[0] != node || !open(i)) {
                        continue;
                    }
                    int set = -1;
                    switch (behaviors[node]) {
                        case CodedRelays.HONEST: case CodedRelays.ALTERING: set = choose(had.size()); break;
                        case CodedRelays.LAZY: set = 1; break;
                        case CodedRelays.HOLDING: set = choose(had.size() / 2 + had.size() % 2); break;
                        default: break;
                    }
                    if (set < 0) {
                        continue;
                    }
                    int payload = total(had, set, 1);
                    under[i] = new int[] {total(had, set, 0), behaviors[node] == CodedRelays.ALTERING ? payload ^ 1 : payload};
                    sentBy.get(node).add(under[i][0]);
                }
            }
            int accepted = 0;
            for (int i = 0; i < links.size(); i++) {
                if (under[i] != null) {
                    int fate = arrive(i, under[i]);
                    histories.get(i).add(new Sent(under[i][0], under[i][1], fate));
                    accepted += fate == CodedRelays.NEW ? 1 : 0;
                }
            }
            rounds++;
            return accepted;
        }

        int arrive(int link, int[] sum) {
            int loss = links.get(link)[2];
            int to = links.get(link)[1];
            if (loss > 0 && (histories.get(link).size() + 1) % loss == 0) {
                return CodedRelays.LOST;
            }
            Integer set = tables.get(to).get(sum[0]);
            if (set == null) {
                sums.get(to).add(sum);
                tables.set(to, table(sums.get(to)));
                return CodedRelays.NEW;
            }
            return total(sums.get(to), set, 1) == sum[1] ? CodedRelays.REDUNDANT : CodedRelays.CONFLICTING;
        }

        boolean odd(int vector, int projection) {
            boolean odd = false;
            for (int i = 0; i < k; i++) {
                odd ^= (vector >> i & projection >> i & 1) == 1;
            }
            return odd;
        }

        boolean suspectFor(int relay, int projection) {
            return sums.get(relay).stream().anyMatch(sum -> odd(sum[0], projection))
                && sentBy.get(relay).stream().noneMatch(vector -> odd(vector, projection));
        }

        boolean checked(int relay, int projection) {
            if (!suspectFor(relay, projection)) {
                return false;
            }
            marks[relay]++;
            cut[relay] |= marks[relay] >= limit;
            return true;
        }

        /** The fewest open links, without the one left out, from a set with node 0 to the rest with the node. */
        int smallestCut(int node, int leftOut) {
            int best = Integer.MAX_VALUE;
            for (int side = 1; side < 1 << n; side += 2) {
                if ((side >> node & 1) == 1) {
                    continue;
                }
                int crossing = 0;
                for (int i = 0; i < links.size(); i++) {
                    if (i != leftOut && open(i) && (side >> links.get(i)[0] & 1) == 1 && (side >> links.get(i)[1] & 1) == 0) {
                        crossing++;
                    }
                }
                best = Math.min(best, crossing);
            }
            return best;
        }
    }

    /** The document's face over the state above. */
    private static final class Model {
        State s = new State();
        final State[] slots = new State[2];
        String text = "";

        private boolean node(int node) {
            return node >= 0 && node < s.n;
        }

        private boolean isLink(int link) {
            return link >= 0 && link < s.links.size();
        }

        private boolean in(int value, int low, int high) {
            return low <= value && value <= high;
        }

        private int all() {
            return (1 << s.k) - 1;
        }

        public int setPackets(int packets) {
            if (!in(packets, 2, 8)) return -1;
            int old = s.k;
            s.k = packets;
            for (int i = 0; i < 8; i++) s.payloads[i] = 17 * (i + 1);
            s.begin();
            return old;
        }

        public int setPayload(int packet, int payload) {
            if (!in(packet, 0, s.k - 1) || !in(payload, 0, 255)) return -1;
            int old = s.payloads[packet];
            s.payloads[packet] = payload;
            s.begin();
            return old;
        }

        public int setNodes(int nodes) {
            if (!in(nodes, 3, 10)) return -1;
            int old = s.n;
            s.n = nodes;
            s.links.clear();
            s.behaviors = new int[10];
            s.begin();
            return old;
        }

        public int addLink(int from, int to, int loss) {
            if (!node(from) || !node(to) || from >= to || !in(loss, 0, 9)) return -1;
            if (s.links.size() == 20) return -2;
            s.links.add(new int[] {from, to, loss});
            s.begin();
            return s.links.size() - 1;
        }

        public int removeLink() {
            if (s.links.isEmpty()) return -3;
            s.links.remove(s.links.size() - 1);
            s.begin();
            return s.links.size();
        }

        public int setBehavior(int node, int behavior) {
            if (!node(node) || node == 0 || !in(behavior, 0, 4)) return -1;
            int old = s.behaviors[node];
            s.behaviors[node] = behavior;
            s.begin();
            return old;
        }

        public int setState(int state) {
            if (state < 0) return -1;
            int old = (int) s.random;
            s.random = state;
            return old;
        }

        public int setLimit(int marks) {
            if (!in(marks, 1, 9)) return -1;
            int old = s.limit;
            s.limit = marks;
            return old;
        }

        public int run(int rounds) {
            if (!in(rounds, 1, 50)) return -1;
            int accepted = 0;
            for (int i = 0; i < rounds; i++) accepted += s.round();
            return accepted;
        }

        public int runUntil(int node) {
            if (!node(node)) return -1;
            int played = 0;
            while (knows(node) != all() && played < 50) {
                s.round();
                played++;
            }
            return knows(node) == all() ? played : -4;
        }

        public int rounds() {
            return s.rounds;
        }

        public int nodes() {
            return s.n;
        }

        public int links() {
            return s.links.size();
        }

        public int link(int link, int what) {
            return isLink(link) && in(what, 0, 2) ? s.links.get(link)[what] : -1;
        }

        public int rank(int node) {
            return node(node) ? s.sums.get(node).size() : -1;
        }

        private int part(int node, int index, int which) {
            return node(node) && in(index, 0, rank(node) - 1) ? s.sums.get(node).get(index)[which] : -1;
        }

        public int vector(int node, int index) {
            return part(node, index, 0);
        }

        public int payload(int node, int index) {
            return part(node, index, 1);
        }

        public int fates(int link, int fate) {
            if (!isLink(link) || !in(fate, 0, 3)) return -1;
            return (int) s.histories.get(link).stream().filter(sent -> sent.fate() == fate).count();
        }

        public int lastSent(int link) {
            if (!isLink(link)) return -1;
            List<Sent> history = s.histories.get(link);
            return history.isEmpty() ? -4 : history.get(history.size() - 1).vector();
        }

        public int endSum(int link, boolean received) {
            if (!isLink(link)) return -1;
            return s.histories.get(link).stream().filter(sent -> !received || sent.fate() != CodedRelays.LOST)
                .mapToInt(Sent::vector).reduce(0, (a, b) -> a ^ b);
        }

        public int differing() {
            int count = 0;
            for (int i = 0; i < links(); i++) count += endSum(i, true) != endSum(i, false) ? 1 : 0;
            return count;
        }

        public int knows(int node) {
            if (!node(node)) return -1;
            int known = 0;
            for (int i = 0; i < s.k; i++) known += s.tables.get(node).containsKey(1 << i) ? 1 << i : 0;
            return known;
        }

        public int solve(int node, int packet) {
            if (!node(node) || !in(packet, 0, s.k - 1)) return -1;
            Integer set = s.tables.get(node).get(1 << packet);
            return set == null ? -4 : State.total(s.sums.get(node), set, 1);
        }

        public int wrong() {
            int count = 0;
            for (int node = 1; node < s.n; node++) {
                for (int i = 0; i < s.k; i++) {
                    int solved = solve(node, i);
                    count += solved != -4 && solved != s.payloads[i] ? 1 : 0;
                }
            }
            return count;
        }

        public int combination(int node, int vector) {
            if (!node(node) || !in(vector, 0, all())) return -1;
            return s.tables.get(node).getOrDefault(vector, -4);
        }

        public int commonRank(int node, int other) {
            if (!node(node) || !node(other)) return -1;
            Set<Integer> common = new TreeSet<>(s.tables.get(node).keySet());
            common.retainAll(s.tables.get(other).keySet());
            return Integer.numberOfTrailingZeros(common.size());
        }

        public int suspect(int relay, int projection) {
            if (!s.relay(relay) || !in(projection, 1, all())) return -1;
            return s.suspectFor(relay, projection) ? 1 : 0;
        }

        public int suspicions(int relay) {
            if (!s.relay(relay)) return -1;
            int count = 0;
            for (int p = 1; p <= all(); p++) count += suspect(relay, p);
            return count;
        }

        public int check(int relay, int projection) {
            if (!s.relay(relay) || !in(projection, 1, all())) return -1;
            if (s.cut[relay]) return -3;
            s.checked(relay, projection);
            return s.marks[relay];
        }

        public int checkRandomly(int checks) {
            if (!in(checks, 1, 50)) return -1;
            int count = 0;
            for (int i = 0; i < checks; i++) {
                List<Integer> relays = new ArrayList<>();
                for (int node = 0; node < s.n; node++) {
                    if (s.relay(node) && !s.cut[node]) relays.add(node);
                }
                if (relays.isEmpty()) continue;
                int relay = relays.get(s.random(relays.size()));
                int projection = s.random(all()) + 1;
                count += s.checked(relay, projection) ? 1 : 0;
            }
            return count;
        }

        public int marks(int node) {
            return node(node) ? s.marks[node] : -1;
        }

        public int isCutOff(int node) {
            return node(node) ? s.cut[node] ? 1 : 0 : -1;
        }

        public int sentRank(int relay) {
            if (!s.relay(relay)) return -1;
            Set<Integer> sums = new TreeSet<>(List.of(0));
            for (int vector : s.sentBy.get(relay)) {
                for (int sum : List.copyOf(sums)) sums.add(sum ^ vector);
            }
            return Integer.numberOfTrailingZeros(sums.size());
        }

        public int flow(int node) {
            return node(node) && node != 0 ? s.smallestCut(node, -1) : -1;
        }

        public int neededLink(int node) {
            if (!node(node) || node == 0) return -1;
            int flow = flow(node);
            for (int i = 0; i < links(); i++) {
                if (s.open(i) && s.smallestCut(node, i) < flow) return i;
            }
            return -4;
        }

        public int append(int character) {
            if (!in(character, 32, 126)) return -1;
            if (text.length() == 100) return -2;
            text += (char) character;
            return text.length();
        }

        public int clearText() {
            int old = text.length();
            text = "";
            return old;
        }

        /** What an entry may look like while there is, or is not, room for a link. */
        private Pattern entry(boolean room) {
            int top = s.n - 1;
            StringBuilder words = new StringBuilder("(?:b[1-" + top + "]=[0-4]");
            for (int first = 0; first <= top && room; first++) {
                String second = first < top ? "[" + (first + 1) + "-" + top + "]" : "[^\\s\\S]";
                words.append("|").append(first).append(">").append(second).append("(?:/[0-9])?");
            }
            return Pattern.compile(words + ");");
        }

        public int faultPosition() {
            int links = links();
            int start = 0;
            for (int i = 0; i < text.length(); i++) {
                Matcher matcher = entry(links < 20).matcher(text.substring(start, i + 1));
                if (matcher.matches()) {
                    links += text.charAt(start) == 'b' ? 0 : 1;
                    start = i + 1;
                } else if (!matcher.hitEnd()) {
                    return i;
                }
            }
            return start == text.length() ? -4 : text.length();
        }

        public int read() {
            if (faultPosition() != -4) return -3;
            String[] entries = text.isEmpty() ? new String[0] : text.split(";");
            for (String entry : entries) {
                String[] parts = entry.split("[>/=]");
                if (entry.startsWith("b")) {
                    s.behaviors[Integer.parseInt(parts[0].substring(1))] = Integer.parseInt(parts[1]);
                } else {
                    int loss = parts.length > 2 ? Integer.parseInt(parts[2]) : 0;
                    s.links.add(new int[] {Integer.parseInt(parts[0]), Integer.parseInt(parts[1]), loss});
                }
            }
            s.begin();
            return entries.length;
        }

        public int keep(int slot) {
            if (!in(slot, 0, 1)) return -1;
            slots[slot] = s.copy();
            return s.rounds;
        }

        public int restore(int slot) {
            if (!in(slot, 0, 1)) return -1;
            if (slots[slot] == null) return -3;
            s = slots[slot].copy();
            return s.rounds;
        }

        public long checksum() {
            List<Long> values = new ArrayList<>(List.of((long) nodes(), (long) links(), (long) rounds(), s.random));
            for (int i = 0; i < s.n; i++) {
                values.add((long) rank(i));
                for (int[] sum : s.sums.get(i)) {
                    values.add((long) sum[0]);
                    values.add((long) sum[1]);
                }
                values.add((long) marks(i));
                values.add((long) isCutOff(i));
            }
            for (int i = 0; i < links(); i++) {
                for (int fate = 0; fate < 4; fate++) values.add((long) fates(i, fate));
                values.add((long) lastSent(i));
                values.add((long) endSum(i, false));
                values.add((long) endSum(i, true));
            }
            long h = 61;
            for (long value : values) h = 31 * h + value;
            return h;
        }
    }
}
