import java.util.function.IntSupplier;
import java.util.function.ToIntFunction;

/**
 * The promises 1 to 43, one method each: ordinary inputs, the edges that the document names, and
 * wrong inputs. What is due is written out, or follows from the document's words; random numbers
 * are steered by setting a state from which the wanted ones come. No object is used for more than
 * 512 calls, since the document leaves free what later ones answer (CallCountTest counts them).
 */
public final class PromiseTest extends Steering {
    private static final int PROMISES = 43;

    private static int promise = 0;
    private static int wrong = 0;
    private static final int[] ASKED = new int[PROMISES + 1];

    public static void main(String[] args) throws Exception {
        for (promise = 1; promise <= PROMISES; promise++) {
            PromiseTest.class.getDeclaredMethod("promise" + promise).invoke(null);
            if (ASKED[promise] == 0) {
                wrong++;
                System.out.println("promise " + promise + " is not tested");
            }
        }
        System.out.println(wrong == 0 ? "all promises hold" : wrong + " answers are not as due");
        if (wrong != 0) {
            System.exit(1);
        }
    }

    // ---- helpers

    private static void due(String what, long got, long want) {
        ASKED[promise]++;
        if (got != want) {
            wrong++;
            System.out.println("promise " + promise + ": " + what + " answered " + got + ", due is " + want);
        }
    }

    /** The call must answer the error and leave everything as it is. */
    private static void refused(CodedRelays x, String what, IntSupplier call, int error) {
        String before = picture(x);
        due(what, call.getAsInt(), error);
        String after = picture(x);
        due(what + " changes nothing", after.equals(before) ? 1 : 0, 1);
    }

    private static void refusedAll(CodedRelays x, String what, ToIntFunction<Integer> call, int... values) {
        for (int value : values) {
            refused(x, what + " with " + value, () -> call.applyAsInt(value), BAD);
        }
    }

    /** What can be asked without a change, and the limit. */
    private static String picture(CodedRelays x) {
        StringBuilder words = new StringBuilder();
        words.append(x.checksum()).append(' ').append(x.faultPosition());
        int links = x.links();
        for (int i = 0; i < links; i++) {
            words.append(' ').append(x.link(i, 0)).append(x.link(i, 1)).append(x.link(i, 2));
        }
        int nodes = x.nodes();
        for (int i = 1; i < nodes; i++) {
            words.append(' ').append(x.sentRank(i)).append(',').append(x.suspicions(i));
        }
        int limit = x.setLimit(1);
        x.setLimit(limit);
        return words.append(" limit ").append(limit).toString();
    }

    /** A generation has just begun, with the random state and the limit that stay. */
    private static void begun(CodedRelays x, int state, int limit) {
        due("rounds() at the beginning", x.rounds(), 0);
        due("differing() at the beginning", x.differing(), 0);
        due("wrong() at the beginning", x.wrong(), 0);
        for (int i = 0; i < x.nodes(); i++) {
            due("rank(" + i + ") at the beginning", x.rank(i), i == 0 ? Integer.bitCount(x.knows(0)) : 0);
            due("marks(" + i + ") at the beginning", x.marks(i), 0);
            due("isCutOff(" + i + ") at the beginning", x.isCutOff(i), 0);
            due("sentRank(" + i + ") at the beginning", Math.max(0, x.sentRank(i)), 0);
            due("suspicions(" + i + ") at the beginning", Math.max(0, x.suspicions(i)), 0);
        }
        for (int i = 0; i < x.links(); i++) {
            for (int fate = 0; fate < 4; fate++) {
                due("fates(" + i + ", " + fate + ") at the beginning", x.fates(i, fate), 0);
            }
            due("lastSent(" + i + ") at the beginning", x.lastSent(i), NONE);
            due("endSum(" + i + ", false) at the beginning", x.endSum(i, false), 0);
            due("endSum(" + i + ", true) at the beginning", x.endSum(i, true), 0);
        }
        due("the state stays", x.setState(state), state);
        due("the limit stays", x.setLimit(limit), limit);
    }

    // ---- the promises

    static void promise1() {
        CodedRelays x = new CodedRelays();
        due("nodes()", x.nodes(), 5);
        due("links()", x.links(), 0);
        due("clearText()", x.clearText(), 0);
        due("restore(0)", x.restore(0), NOT);
        due("restore(1)", x.restore(1), NOT);
        begun(x, 1, 3);
        for (int i = 0; i < 4; i++) {
            due("vector(0, " + i + ")", x.vector(0, i), 1 << i);
            due("payload(0, " + i + ")", x.payload(0, i), 17 * (i + 1));
        }
        for (int i = 1; i < 5; i++) {
            due("setBehavior(" + i + ", 4)", x.setBehavior(i, 4), CodedRelays.HONEST);
        }
        due("setPackets(4)", x.setPackets(4), 4);
        due("BAD_VALUE", CodedRelays.BAD_VALUE, -1);
        due("FULL", CodedRelays.FULL, -2);
        due("NOT_POSSIBLE", CodedRelays.NOT_POSSIBLE, -3);
        due("NONE", CodedRelays.NONE, -4);
        CodedRelays other = new CodedRelays();
        other.addLink(0, 1, 0);
        due("links() of another object", x.links(), 0);
    }

    static void promise2() {
        CodedRelays x = new CodedRelays();
        due("setPackets(2)", x.setPackets(2), 4);
        due("setPackets(8)", x.setPackets(8), 2);
        due("rank(0)", x.rank(0), 8);
        due("payload(0, 7)", x.payload(0, 7), 136);
        due("knows(0)", x.knows(0), 255);
        x.setPayload(0, 99);
        x.setPayload(7, 98);
        due("setPackets(8) again", x.setPackets(8), 8);
        due("payload(0, 0) as at first", x.payload(0, 0), 17);
        due("payload(0, 7) as at first", x.payload(0, 7), 136);
        x.setPayload(6, 5);
        due("setPackets(3)", x.setPackets(3), 8);
        due("setPackets(7)", x.setPackets(7), 3);
        due("payload(0, 6) as at first", x.payload(0, 6), 119);
        CodedRelays y = busy();
        int state = stateOf(y);
        due("setPackets(5)", y.setPackets(5), 4);
        due("links() stay", y.links(), 4);
        due("nodes() stay", y.nodes(), 4);
        begun(y, state, 5);
        due("behaviors stay", y.setBehavior(2, 0), CodedRelays.SILENT);
        CodedRelays z = busy();
        refusedAll(z, "setPackets", z::setPackets, 1, 9, 0, -1, Integer.MAX_VALUE, Integer.MIN_VALUE);
    }

    static void promise3() {
        CodedRelays x = new CodedRelays();
        due("setPayload(0, 255)", x.setPayload(0, 255), 17);
        due("setPayload(0, 0)", x.setPayload(0, 0), 255);
        due("setPayload(3, 1)", x.setPayload(3, 1), 68);
        due("payload(0, 0)", x.payload(0, 0), 0);
        due("payload(0, 3)", x.payload(0, 3), 1);
        due("solve(0, 3)", x.solve(0, 3), 1);
        due("payload(0, 2)", x.payload(0, 2), 51);
        CodedRelays y = busy();
        int state = stateOf(y);
        due("setPayload(1, 34)", y.setPayload(1, 34), 34);
        begun(y, state, 5);
        CodedRelays z = busy();
        refusedAll(z, "setPayload(v, 0)", v -> z.setPayload(v, 0), -1, 4, 8, Integer.MAX_VALUE, Integer.MIN_VALUE);
        refusedAll(z, "setPayload(0, v)", v -> z.setPayload(0, v), -1, 256, Integer.MAX_VALUE, Integer.MIN_VALUE);
    }

    static void promise4() {
        CodedRelays x = busy();
        int state = stateOf(x);
        due("setNodes(4), as before", x.setNodes(4), 4);
        due("links()", x.links(), 0);
        begun(x, state, 5);
        x.setPayload(0, 200);
        due("setNodes(4) again", x.setNodes(4), 4);
        due("payloads stay", x.payload(0, 0), 200);
        due("all are honest: 1", x.setBehavior(1, 3), CodedRelays.HONEST);
        due("all are honest: 2", x.setBehavior(2, 3), CodedRelays.HONEST);
        due("setNodes(10)", x.setNodes(10), 4);
        due("nodes()", x.nodes(), 10);
        due("rank(9)", x.rank(9), 0);
        due("setBehavior(9, 4)", x.setBehavior(9, 4), 0);
        due("addLink(0, 9, 0)", x.addLink(0, 9, 0), 0);
        due("setNodes(3)", x.setNodes(3), 10);
        due("rank(3)", x.rank(3), BAD);
        due("setNodes(10) again", x.setNodes(10), 3);
        due("node 9 is honest again", x.setBehavior(9, 0), CodedRelays.HONEST);
        CodedRelays z = busy();
        refusedAll(z, "setNodes", z::setNodes, 2, 11, 0, -1, Integer.MAX_VALUE, Integer.MIN_VALUE);
    }

    static void promise5() {
        CodedRelays x = new CodedRelays();
        due("addLink(0, 1, 0)", x.addLink(0, 1, 0), 0);
        due("addLink(3, 4, 9)", x.addLink(3, 4, 9), 1);
        due("the same link again", x.addLink(0, 1, 0), 2);
        CodedRelays y = busy();
        int state = stateOf(y);
        due("addLink(1, 3, 5)", y.addLink(1, 3, 5), 4);
        due("link(4, 2)", y.link(4, 2), 5);
        begun(y, state, 5);
        due("behaviors stay", y.setBehavior(2, 0), CodedRelays.SILENT);
        CodedRelays z = busy();
        refusedAll(z, "addLink(v, 3, 0)", v -> z.addLink(v, 3, 0), -1, 3, 4, Integer.MAX_VALUE, Integer.MIN_VALUE);
        CodedRelays w = busy();
        refusedAll(w, "addLink(1, v, 0)", v -> w.addLink(1, v, 0), -1, 0, 1, 4, Integer.MAX_VALUE, Integer.MIN_VALUE);
        CodedRelays u = busy();
        refusedAll(u, "addLink(1, 2, v)", v -> u.addLink(1, 2, v), -1, 10, Integer.MAX_VALUE, Integer.MIN_VALUE);
        linksUpToTwenty();
    }

    private static void linksUpToTwenty() {
        CodedRelays x = busy();
        for (int i = 4; i < 20; i++) {
            due("link " + i, x.addLink(0, 3, 1), i);
        }
        x.run(2);
        refused(x, "the 21st link", () -> x.addLink(0, 3, 1), FULL);
        refused(x, "a bad one when it is full", () -> x.addLink(3, 3, 1), BAD);
        due("links()", x.links(), 20);
        CodedRelays y = busy();
        for (int i = 4; i < 20; i++) {
            y.addLink(0, 3, 1);
        }
        refused(y, "a bad loss when it is full", () -> y.addLink(0, 3, 10), BAD);
    }

    static void promise6() {
        CodedRelays x = busy();
        int state = stateOf(x);
        due("removeLink()", x.removeLink(), 3);
        due("links()", x.links(), 3);
        due("link(3, 0)", x.link(3, 0), BAD);
        due("link(2, 0)", x.link(2, 0), 0);
        due("link(1, 0)", x.link(1, 0), 1);
        begun(x, state, 5);
        due("behaviors stay", x.setBehavior(2, 4), CodedRelays.SILENT);
        due("node 2 is no relay now", x.suspicions(2), BAD);
        due("removeLink()", x.removeLink(), 2);
        due("removeLink()", x.removeLink(), 1);
        due("removeLink()", x.removeLink(), 0);
        x.run(3);
        refused(x, "removeLink() without links", x::removeLink, NOT);
        due("rounds() go on", x.rounds(), 3);
        due("addLink() begins at 0 again", x.addLink(0, 2, 0), 0);
    }

    static void promise7() {
        CodedRelays x = busy();
        int state = stateOf(x);
        due("setBehavior(3, 4)", x.setBehavior(3, 4), 0);
        begun(x, state, 5);
        for (int b = 0; b <= 4; b++) {
            due("setBehavior(3, " + b + ")", x.setBehavior(3, b), b == 0 ? 4 : b - 1);
        }
        due("links() stay", x.links(), 4);
        CodedRelays z = busy();
        refusedAll(z, "setBehavior(v, 1)", v -> z.setBehavior(v, 1), 0, -1, 4, Integer.MAX_VALUE, Integer.MIN_VALUE);
        refusedAll(z, "setBehavior(2, v)", v -> z.setBehavior(2, v), -1, 5, Integer.MAX_VALUE, Integer.MIN_VALUE);
        due("the behavior is what it was", z.setBehavior(2, 0), CodedRelays.SILENT);
        behaviors();
    }

    /** What each behavior sends, and how many random numbers it takes. */
    private static void behaviors() {
        int[] numbers = {2, 1, 2, 2, 1};
        for (int behavior = 0; behavior <= 4; behavior++) {
            CodedRelays x = network(3, 0, 1, 0, 1, 2, 0);
            x.setBehavior(1, behavior);
            roundWith(x, 2);
            roundWith(x, 4);
            roundWith(x, 8);
            due("rank(1) before the last round", x.rank(1), 3);
            // The source repeats 8; then a choice of all three sums, or of both of the first two.
            int state = behavior == CodedRelays.HOLDING ? stateFor(15, 7, 3, 2) : stateFor(15, 7, 7, 6);
            x.setState(state);
            x.run(1);
            due("random numbers of behavior " + behavior, stateOf(x), after(state, numbers[behavior]));
            int[] vectors = {14, 2, 6, 14, NONE};
            due("lastSent(1) of behavior " + behavior, x.lastSent(1), vectors[behavior]);
            int rank = x.rank(2);
            int[] payloads = {34 ^ 51 ^ 68, 34, 34 ^ 51, 34 ^ 51 ^ 68 ^ 1};
            if (behavior == 4) {
                due("a silent relay gives nothing", rank, 0);
            } else {
                due("vector of behavior " + behavior, x.vector(2, rank - 1), vectors[behavior]);
                due("payload of behavior " + behavior, x.payload(2, rank - 1), payloads[behavior]);
            }
        }
        CodedRelays x = network(3, 0, 1, 0, 1, 2, 0);
        x.setBehavior(1, CodedRelays.HOLDING);
        roundWith(x, 1);
        int state = stateFor(15, 0, 1, 0);
        x.setState(state);
        x.run(1);
        due("half of one is one", x.lastSent(1), 1);
        due("a choice among one takes a number too", stateOf(x), after(state, 2));
        halves();
    }

    /** With 1 to 8 sums a holding relay chooses among the first 1, 1, 2, 2, 3, 3, 4 and 4. */
    private static void halves() {
        CodedRelays x = network(3, 0, 1, 0, 1, 2, 0);
        x.setPackets(8);
        x.setBehavior(1, CodedRelays.HOLDING);
        for (int rank = 1; rank <= 8; rank++) {
            x.setState(stateFor(255, (1 << (rank - 1)) - 1));
            x.run(1);
            due("rank(1)", x.rank(1), rank);
            int choices = (1 << (rank + 1) / 2) - 1;
            x.setState(stateFor(255, 0, choices, choices - 1));
            x.run(1);
            due("all of the first half of " + rank, x.lastSent(1), choices);
        }
    }

    static void promise8() {
        CodedRelays x = new CodedRelays();
        due("setState(0)", x.setState(0), 1);
        due("setState(2147483647)", x.setState(2147483647), 0);
        due("setState(5)", x.setState(5), 2147483647);
        refusedAll(x, "setState", x::setState, -1, Integer.MIN_VALUE);
        due("setState(6)", x.setState(6), 5);
        CodedRelays y = network(3, 0, 1, 0);
        y.setState(2147483647);
        y.run(1);
        long state = (2147483647L * 1103515245L + 12345L) % 2147483648L;
        due("the state after a round", stateOf(y), state);
        due("the vector that was chosen", y.lastSent(0), state / 65536 % 15 + 1);
        due("setState() begins no generation", y.rounds(), 1);
        due("rank(1)", y.rank(1), 1);
        y.setPackets(8);
        y.setState(1);
        y.run(1);
        due("with eight packets the number is below 255", y.lastSent(0), 16838 % 255 + 1);
    }

    static void promise9() {
        CodedRelays x = new CodedRelays();
        due("setLimit(1)", x.setLimit(1), 3);
        due("setLimit(9)", x.setLimit(9), 1);
        due("setLimit(3)", x.setLimit(3), 9);
        CodedRelays y = busy();
        refusedAll(y, "setLimit", y::setLimit, 0, 10, -1, Integer.MAX_VALUE, Integer.MIN_VALUE);
        due("marks(2)", y.marks(2), 1);
        due("setLimit(1)", y.setLimit(1), 5);
        due("nobody is cut off by this", y.isCutOff(2), 0);
        due("setLimit(9)", y.setLimit(9), 1);
        due("nobody comes back by this", y.isCutOff(1), 1);
        due("it begins no generation", y.rounds(), 12);
    }

    static void promise10() {
        CodedRelays x = network(3, 0, 1, 0, 1, 2, 0);
        due("round 1", roundWith(x, 1), 1);
        due("nothing could be forwarded yet", x.lastSent(1), NONE);
        due("rank(2)", x.rank(2), 0);
        due("round 2: old for node 1, new for node 2", roundWith(x, 1), 1);
        due("round 3", roundWith(x, 2), 1);
        due("sent is what was there at the beginning of the round", x.lastSent(1), 1);
        due("rank(1)", x.rank(1), 2);
        due("rank(2)", x.rank(2), 1);
        due("rounds()", x.rounds(), 3);
        due("run(50)", x.run(50), 5);
        due("run(50) when all is known", x.run(50), 0);
        due("rounds()", x.rounds(), 103);
        CodedRelays none = new CodedRelays();
        due("run(1) without links", none.run(1), 0);
        due("no random number is taken then", stateOf(none), 1);
        CodedRelays z = busy();
        refusedAll(z, "run", z::run, 0, 51, -1, Integer.MAX_VALUE, Integer.MIN_VALUE);
        orderOfRounds();
        closedLinks();
    }

    private static void orderOfRounds() {
        CodedRelays x = network(3, 1, 2, 0, 0, 2, 0, 0, 1, 0);
        x.setState(stateFor(15, 0, 15, 1));
        due("two are new", x.run(1), 2);
        due("link 1 first", x.lastSent(1), 1);
        due("then link 2", x.lastSent(2), 2);
        // Node 0 sends before node 1, but link 0 is received before link 1.
        int state = stateFor(15, 1, 15, 1, 1, 0);
        x.setState(state);
        due("one of two that are alike is new", x.run(1), 1);
        due("the one of link 0", x.fates(0, CodedRelays.NEW), 1);
        due("not the one of link 1", x.fates(1, CodedRelays.REDUNDANT), 1);
        due("three random numbers", stateOf(x), after(state, 3));
        CodedRelays y = network(4, 2, 3, 0, 1, 3, 0, 0, 1, 0, 0, 2, 0);
        y.setState(stateFor(15, 0, 15, 1));
        y.run(1);
        y.setState(stateFor(15, 3, 15, 7, 1, 0, 1, 0));
        y.run(1);
        y.setState(stateFor(15, 0, 15, 0, 3, 0, 3, 1));
        y.run(1);
        due("node 1 chooses before node 2", y.lastSent(1), 1);
        due("node 2 chooses after node 1", y.lastSent(0), 8);
    }

    private static void closedLinks() {
        CodedRelays x = network(4, 0, 1, 0, 1, 2, 0, 0, 3, 0, 2, 3, 0);
        x.setBehavior(2, CodedRelays.SILENT);
        x.setState(3);
        x.run(20);
        x.setLimit(1);
        due("node 2 is cut off", x.check(2, firstSuspicion(x, 2)), 1);
        int to2 = x.fates(1, CodedRelays.REDUNDANT);
        int state = stateOf(x);
        x.run(1);
        due("nothing goes to a node that is cut off", x.fates(1, CodedRelays.REDUNDANT), to2);
        due("a closed link takes no random number", stateOf(x), after(state, 2));
        CodedRelays y = network(3, 0, 1, 0, 1, 2, 0);
        y.setBehavior(1, CodedRelays.LAZY);
        y.run(20);
        y.setLimit(1);
        y.check(1, firstSuspicion(y, 1));
        int sent = y.fates(1, CodedRelays.REDUNDANT);
        y.run(5);
        due("nothing comes from a node that is cut off", y.fates(1, CodedRelays.REDUNDANT), sent);
        due("its sums stay", y.rank(1), 4);
        due("rounds go on", y.rounds(), 25);
    }

    static void promise11() {
        CodedRelays x = network(3, 0, 1, 0);
        due("runUntil(0)", x.runUntil(0), 0);
        due("rounds()", x.rounds(), 0);
        x.setState(stateFor(15, 0, 15, 1, 15, 3, 15, 7));
        due("runUntil(1) by four new sums", x.runUntil(1), 4);
        due("rounds()", x.rounds(), 4);
        due("runUntil(1) again", x.runUntil(1), 0);
        due("rounds() stay", x.rounds(), 4);
        due("runUntil(2)", x.runUntil(2), NONE);
        due("the 50 rounds were run", x.rounds(), 54);
        due("knows(1)", x.knows(1), 15);
        refusedAll(x, "runUntil", x::runUntil, -1, 3, Integer.MAX_VALUE, Integer.MIN_VALUE);
        lastRounds();
    }

    /** Node 9 knows all after just 50 rounds, and after 51. */
    private static void lastRounds() {
        due("runUntil(9) that takes 50", longWay(stateForLongWay(50)).runUntil(9), 50);
        CodedRelays x = longWay(stateForLongWay(51));
        due("runUntil(9) that takes 51", x.runUntil(9), NONE);
        due("rounds()", x.rounds(), 50);
        due("the last one", x.runUntil(9), 1);
    }

    static void promise12() {
        CodedRelays x = new CodedRelays();
        due("rounds()", x.rounds(), 0);
        x.run(7);
        x.run(50);
        due("rounds()", x.rounds(), 57);
        x.runUntil(0);
        due("rounds()", x.rounds(), 57);
        x.runUntil(1);
        due("rounds()", x.rounds(), 107);
        x.setPackets(4);
        due("rounds()", x.rounds(), 0);
    }

    static void promise13() {
        CodedRelays x = new CodedRelays();
        due("nodes()", x.nodes(), 5);
        for (int n = 3; n <= 10; n++) {
            x.setNodes(n);
            due("nodes()", x.nodes(), n);
        }
        x.setNodes(11);
        due("nodes()", x.nodes(), 10);
    }

    static void promise14() {
        CodedRelays x = new CodedRelays();
        for (int i = 0; i < 20; i++) {
            due("links()", x.links(), i);
            x.addLink(0, 1, 0);
        }
        x.addLink(0, 1, 0);
        due("links()", x.links(), 20);
        x.removeLink();
        due("links()", x.links(), 19);
        x.setNodes(5);
        due("links()", x.links(), 0);
    }

    static void promise15() {
        CodedRelays x = network(5, 0, 1, 2, 2, 4, 9, 1, 3, 0);
        int[][] want = {{0, 1, 2}, {2, 4, 9}, {1, 3, 0}};
        for (int i = 0; i < 3; i++) {
            for (int what = 0; what < 3; what++) {
                due("link(" + i + ", " + what + ")", x.link(i, what), want[i][what]);
            }
        }
        refusedAll(x, "link(v, 0)", v -> x.link(v, 0), -1, 3, 19, 20, Integer.MAX_VALUE, Integer.MIN_VALUE);
        refusedAll(x, "link(0, v)", v -> x.link(0, v), -1, 3, Integer.MAX_VALUE, Integer.MIN_VALUE);
        due("link(0, 0) without links", new CodedRelays().link(0, 0), BAD);
    }

    static void promise16() {
        CodedRelays x = network(3, 0, 1, 0);
        due("rank(0)", x.rank(0), 4);
        due("rank(1)", x.rank(1), 0);
        roundWith(x, 5);
        due("rank(1)", x.rank(1), 1);
        roundWith(x, 5);
        due("rank(1) after the same", x.rank(1), 1);
        roundWith(x, 6);
        due("rank(1)", x.rank(1), 2);
        roundWith(x, 3);
        due("rank(1) after the sum of both", x.rank(1), 2);
        x.run(50);
        due("rank(1)", x.rank(1), 4);
        refusedAll(x, "rank", x::rank, -1, 3, 9, 10, Integer.MAX_VALUE, Integer.MIN_VALUE);
    }

    static void promise17() {
        CodedRelays x = network(3, 0, 1, 0);
        roundWith(x, 5);
        roundWith(x, 6);
        roundWith(x, 3);
        roundWith(x, 9);
        due("vector(1, 0)", x.vector(1, 0), 5);
        due("vector(1, 1)", x.vector(1, 1), 6);
        due("vector(1, 2)", x.vector(1, 2), 9);
        due("vector(0, 3)", x.vector(0, 3), 8);
        refusedAll(x, "vector(1, v)", v -> x.vector(1, v), -1, 3, 7, 8, Integer.MAX_VALUE, Integer.MIN_VALUE);
        refusedAll(x, "vector(v, 0)", v -> x.vector(v, 0), -1, 2, 3, Integer.MAX_VALUE, Integer.MIN_VALUE);
        due("vector(0, 4)", x.vector(0, 4), BAD);
    }

    static void promise18() {
        CodedRelays x = network(3, 0, 1, 0);
        x.setPayload(2, 0);
        roundWith(x, 5);
        roundWith(x, 6);
        roundWith(x, 3);
        roundWith(x, 9);
        due("payload(1, 0)", x.payload(1, 0), 17);
        due("payload(1, 1)", x.payload(1, 1), 34);
        due("payload(1, 2)", x.payload(1, 2), 17 ^ 68);
        due("payload(0, 2)", x.payload(0, 2), 0);
        due("payload(0, 3)", x.payload(0, 3), 68);
        refusedAll(x, "payload(1, v)", v -> x.payload(1, v), -1, 3, 7, 8, Integer.MAX_VALUE, Integer.MIN_VALUE);
        refusedAll(x, "payload(v, 0)", v -> x.payload(v, 0), -1, 2, 3, Integer.MAX_VALUE, Integer.MIN_VALUE);
        due("payload(0, 4)", x.payload(0, 4), BAD);
    }

    static void promise19() {
        CodedRelays x = network(3, 0, 1, 3);
        int[] vectors = {1, 1, 2, 3, 4, 8, 7};
        for (int vector : vectors) {
            roundWith(x, vector);
        }
        due("LOST: the third and the sixth", x.fates(0, CodedRelays.LOST), 2);
        due("NEW: 1, 3 and 4", x.fates(0, CodedRelays.NEW), 3);
        due("REDUNDANT: 1 and 7", x.fates(0, CodedRelays.REDUNDANT), 2);
        due("CONFLICTING", x.fates(0, CodedRelays.CONFLICTING), 0);
        for (int loss = 0; loss <= 9; loss++) {
            CodedRelays y = network(3, 0, 1, loss);
            y.run(19);
            due("LOST of 19 with a loss of " + loss, y.fates(0, CodedRelays.LOST), loss == 0 ? 0 : 19 / loss);
        }
        CodedRelays again = network(3, 0, 1, 3);
        again.run(2);
        again.setPayload(0, 1);
        again.run(2);
        due("losses are counted from the beginning of the generation", again.fates(0, CodedRelays.LOST), 0);
        again.run(1);
        due("the third one is lost", again.fates(0, CodedRelays.LOST), 1);
        conflicts();
        refusedAll(x, "fates(v, 0)", v -> x.fates(v, 0), -1, 1, 20, Integer.MAX_VALUE, Integer.MIN_VALUE);
        refusedAll(x, "fates(0, v)", v -> x.fates(0, v), -1, 4, Integer.MAX_VALUE, Integer.MIN_VALUE);
    }

    private static void conflicts() {
        CodedRelays x = network(3, 0, 1, 0, 1, 2, 0, 0, 2, 0);
        x.setBehavior(1, CodedRelays.ALTERING);
        x.setState(stateFor(15, 0, 15, 0));
        x.run(1);
        x.setState(stateFor(15, 0, 15, 0, 1, 0));
        x.run(1);
        due("an altered one that does not fit", x.fates(1, CodedRelays.CONFLICTING), 1);
        due("it is not redundant", x.fates(1, CodedRelays.REDUNDANT), 0);
        due("the honest one fits", x.fates(2, CodedRelays.REDUNDANT), 1);
        due("a conflicting one is not kept", x.rank(2), 1);
        due("payload(2, 0)", x.payload(2, 0), 17);
    }

    static void promise20() {
        CodedRelays x = network(3, 0, 1, 2, 1, 2, 0);
        due("lastSent(0)", x.lastSent(0), NONE);
        roundWith(x, 3);
        due("lastSent(0)", x.lastSent(0), 3);
        roundWith(x, 5);
        due("lastSent(0), though it was lost", x.lastSent(0), 5);
        due("it was lost", x.fates(0, CodedRelays.LOST), 1);
        due("lastSent(1)", x.lastSent(1), 3);
        refusedAll(x, "lastSent", x::lastSent, -1, 2, 20, Integer.MAX_VALUE, Integer.MIN_VALUE);
    }

    static void promise21() {
        CodedRelays x = network(3, 0, 1, 2, 0, 2, 0);
        due("endSum(0, false)", x.endSum(0, false), 0);
        due("endSum(0, true)", x.endSum(0, true), 0);
        roundWith(x, 3);
        roundWith(x, 5);
        roundWith(x, 9);
        due("endSum(0, false)", x.endSum(0, false), 3 ^ 5 ^ 9);
        due("endSum(0, true)", x.endSum(0, true), 3 ^ 9);
        due("both ends of link 1", x.endSum(1, true), x.endSum(1, false));
        roundWith(x, 3);
        roundWith(x, 3);
        due("redundant ones count too", x.endSum(0, true), 3 ^ 9 ^ 3);
        due("lost ones are sent", x.endSum(0, false), 3 ^ 5 ^ 9 ^ 3 ^ 3);
        refusedAll(x, "endSum(v, true)", v -> x.endSum(v, true), -1, 2, 20, Integer.MAX_VALUE, Integer.MIN_VALUE);
        refusedAll(x, "endSum(v, false)", v -> x.endSum(v, false), -1, 2, 20, Integer.MAX_VALUE, Integer.MIN_VALUE);
    }

    static void promise22() {
        CodedRelays x = network(4, 0, 1, 1, 0, 2, 0, 0, 3, 1);
        due("differing()", x.differing(), 0);
        x.setState(stateFor(15, 4, 15, 4, 15, 8));
        x.run(1);
        due("differing(): links 0 and 2", x.differing(), 2);
        x.setState(stateFor(15, 4, 15, 4, 15, 6));
        x.run(1);
        due("differing(): the lost ones of link 0 are 0 together", x.differing(), 1);
        due("differing() without links", new CodedRelays().differing(), 0);
        CodedRelays y = network(3);
        for (int i = 0; i < 20; i++) {
            y.addLink(0, 1, 1);
        }
        y.run(1);
        due("differing() of 20 links", y.differing(), 20);
    }

    static void promise23() {
        CodedRelays x = network(3, 0, 1, 0);
        due("knows(0)", x.knows(0), 15);
        due("knows(1)", x.knows(1), 0);
        roundWith(x, 7);
        due("knows(1) by 7", x.knows(1), 0);
        roundWith(x, 5);
        due("knows(1) by 7 and 5", x.knows(1), 2);
        roundWith(x, 4);
        due("knows(1) by 7, 5 and 4", x.knows(1), 7);
        roundWith(x, 15);
        due("knows(1) by 15 too", x.knows(1), 15);
        x.setPackets(2);
        due("knows(0) of two", x.knows(0), 3);
        refusedAll(x, "knows", x::knows, -1, 3, 10, Integer.MAX_VALUE, Integer.MIN_VALUE);
    }

    static void promise24() {
        CodedRelays x = network(3, 0, 1, 0);
        x.setPayload(3, 0);
        due("solve(0, 3)", x.solve(0, 3), 0);
        due("solve(1, 0)", x.solve(1, 0), NONE);
        roundWith(x, 7);
        roundWith(x, 5);
        due("solve(1, 1)", x.solve(1, 1), 34);
        due("solve(1, 0)", x.solve(1, 0), NONE);
        roundWith(x, 4);
        roundWith(x, 15);
        due("solve(1, 0)", x.solve(1, 0), 17);
        due("solve(1, 2)", x.solve(1, 2), 51);
        due("solve(1, 3)", x.solve(1, 3), 0);
        refusedAll(x, "solve(v, 0)", v -> x.solve(v, 0), -1, 3, Integer.MAX_VALUE, Integer.MIN_VALUE);
        refusedAll(x, "solve(1, v)", v -> x.solve(1, v), -1, 4, 8, 31, 32, Integer.MAX_VALUE, Integer.MIN_VALUE);
        due("a bad packet of a node that knows nothing", x.solve(2, 4), BAD);
    }

    static void promise25() {
        CodedRelays x = network(3, 0, 1, 0, 1, 2, 0);
        x.setBehavior(1, CodedRelays.ALTERING);
        due("wrong()", x.wrong(), 0);
        roundWith(x, 1);
        due("wrong() of what the source sent", x.wrong(), 0);
        roundWith(x, 1);
        due("wrong() after the altered 1", x.wrong(), 1);
        due("solve(2, 0)", x.solve(2, 0), 16);
        due("solve(1, 0)", x.solve(1, 0), 17);
        x.setState(stateFor(15, 1));
        x.run(1);
        x.setState(stateFor(15, 0, 3, 2));
        x.run(1);
        due("lastSent(1)", x.lastSent(1), 3);
        // 3 and 1 are both altered; so the change is gone from their sum, packet 1.
        due("solve(2, 1)", x.solve(2, 1), 34);
        due("wrong()", x.wrong(), 1);
        due("wrong() of a new object", new CodedRelays().wrong(), 0);
        CodedRelays y = network(10, 0, 1, 0);
        y.setPackets(8);
        for (int i = 2; i < 10; i++) {
            y.addLink(1, i, 0);
        }
        y.setBehavior(1, CodedRelays.ALTERING);
        y.run(50);
        int count = 0;
        for (int node = 1; node < 10; node++) {
            for (int packet = 0; packet < 8; packet++) {
                count += y.solve(node, packet) == 17 * (packet + 1) ? 0 : 1;
            }
        }
        due("knows(9)", y.knows(9), 255);
        due("wrong() of ten nodes", y.wrong(), count);
    }

    static void promise26() {
        CodedRelays x = network(3, 0, 1, 0);
        due("combination(0, 13)", x.combination(0, 13), 13);
        due("combination(1, 0) without sums", x.combination(1, 0), 0);
        due("combination(1, 1) without sums", x.combination(1, 1), NONE);
        roundWith(x, 7);
        roundWith(x, 5);
        roundWith(x, 12);
        int[] vectors = {7, 5, 12};
        int[] want = new int[16];
        java.util.Arrays.fill(want, NONE);
        for (int set = 0; set < 8; set++) {
            want[(set & 1) * vectors[0] ^ (set >> 1 & 1) * vectors[1] ^ (set >> 2) * vectors[2]] = set;
        }
        for (int vector = 0; vector < 16; vector++) {
            due("combination(1, " + vector + ")", x.combination(1, vector), want[vector]);
        }
        refusedAll(x, "combination(1, v)", v -> x.combination(1, v), -1, 16, 256, Integer.MAX_VALUE, Integer.MIN_VALUE);
        refusedAll(x, "combination(v, 0)", v -> x.combination(v, 0), -1, 3, Integer.MAX_VALUE, Integer.MIN_VALUE);
        combinationsOfEight();
    }

    private static void combinationsOfEight() {
        CodedRelays x = network(3, 0, 1, 0);
        x.setPackets(8);
        x.runUntil(1);
        due("rank(1)", x.rank(1), 8);
        int[] vectors = new int[8];
        for (int i = 0; i < 8; i++) {
            vectors[i] = x.vector(1, i);
        }
        for (int set = 0; set < 256; set++) {
            int sum = 0;
            for (int i = 0; i < 8; i++) {
                sum ^= (set >> i & 1) * vectors[i];
            }
            due("combination(1, " + sum + ") of eight", x.combination(1, sum), set);
        }
        due("combination(0, 255)", x.combination(0, 255), 255);
        due("combination(0, 256)", x.combination(0, 256), BAD);
    }

    static void promise27() {
        CodedRelays x = network(3, 0, 1, 0, 0, 2, 0);
        int[][] pairs = {{1, 2}, {2, 4}, {4, 6}};
        due("commonRank(1, 2) without sums", x.commonRank(1, 2), 0);
        int[] want = {0, 1, 2};
        for (int i = 0; i < 3; i++) {
            x.setState(stateFor(15, pairs[i][0] - 1, 15, pairs[i][1] - 1));
            x.run(1);
            due("commonRank(1, 2)", x.commonRank(1, 2), want[i]);
            due("commonRank(2, 1)", x.commonRank(2, 1), want[i]);
        }
        // Now node 1 has 1, 2, 4 and node 2 has 2, 4 (6 was old): 2, 4, 6 and 0 in common.
        due("rank(1)", x.rank(1), 3);
        due("rank(2)", x.rank(2), 2);
        due("commonRank(1, 1)", x.commonRank(1, 1), 3);
        due("commonRank(0, 1)", x.commonRank(0, 1), 3);
        due("commonRank(0, 0)", x.commonRank(0, 0), 4);
        due("what is common need be a sum of neither's own", crossed(), 1);
        refusedAll(x, "commonRank(v, 0)", v -> x.commonRank(v, 0), -1, 3, Integer.MAX_VALUE, Integer.MIN_VALUE);
        refusedAll(x, "commonRank(0, v)", v -> x.commonRank(0, v), -1, 3, Integer.MAX_VALUE, Integer.MIN_VALUE);
    }

    /** Node 1 has 1 and 2, node 2 has 4 and 7: only 3 is a sum of both. */
    private static int crossed() {
        CodedRelays x = network(3, 0, 1, 0, 0, 2, 0);
        x.setState(stateFor(15, 0, 15, 3));
        x.run(1);
        x.setState(stateFor(15, 1, 15, 6));
        x.run(1);
        return x.commonRank(1, 2);
    }

    static void promise28() {
        CodedRelays x = lazyRelay();
        for (int projection = 1; projection < 16; projection++) {
            boolean has = (projection & 7) != 0;
            boolean sent = (projection & 1) != 0;
            due("suspect(1, " + projection + ")", x.suspect(1, projection), has && !sent ? 1 : 0);
        }
        refusedAll(x, "suspect(1, v)", v -> x.suspect(1, v), 0, 16, -1, Integer.MAX_VALUE, Integer.MIN_VALUE);
        refusedAll(x, "suspect(v, 1)", v -> x.suspect(v, 1), 0, 2, 3, 4, -1, Integer.MAX_VALUE, Integer.MIN_VALUE);
        CodedRelays y = network(3, 0, 1, 0, 1, 2, 1);
        roundWith(y, 6);
        due("suspect(1, 2) before it has sent", y.suspect(1, 2), 1);
        due("suspect(1, 6): 6 is even for it", y.suspect(1, 6), 0);
        roundWith(y, 6);
        due("what was lost was sent too", y.suspect(1, 2), 0);
        x.setLimit(1);
        x.check(1, 2);
        due("suspect(1, 2) of one that is cut off", x.suspect(1, 2), 1);
    }

    static void promise29() {
        CodedRelays x = lazyRelay();
        due("suspicions(1)", x.suspicions(1), 6);
        refusedAll(x, "suspicions", x::suspicions, 0, 2, 3, 4, -1, Integer.MAX_VALUE, Integer.MIN_VALUE);
        CodedRelays y = network(3, 0, 1, 0, 1, 2, 0);
        due("suspicions(1) at the beginning", y.suspicions(1), 0);
        due("suspicions(1) when link 0 alone makes it a relay", network(3, 1, 2, 0).suspicions(1), 0);
        due("suspicions(1) when links lead only to it", network(3, 0, 1, 0).suspicions(1), BAD);
        roundWith(y, 1);
        due("suspicions(1) with 1 unsent", y.suspicions(1), 8);
        y.run(50);
        due("suspicions(1) of an honest relay", y.suspicions(1), 0);
        y.setPackets(8);
        y.setBehavior(1, CodedRelays.SILENT);
        y.runUntil(1);
        due("suspicions(1) of a silent relay that knows eight packets", y.suspicions(1), 255);
        y.setPackets(2);
        y.runUntil(1);
        due("suspicions(1) of a silent relay that knows two packets", y.suspicions(1), 3);
    }

    static void promise30() {
        CodedRelays x = lazyRelay();
        due("check(1, 1)", x.check(1, 1), 0);
        due("check(1, 2)", x.check(1, 2), 1);
        due("check(1, 3)", x.check(1, 3), 1);
        due("check(1, 2) again", x.check(1, 2), 2);
        due("isCutOff(1)", x.isCutOff(1), 0);
        due("check(1, 6)", x.check(1, 6), 3);
        due("isCutOff(1)", x.isCutOff(1), 1);
        refused(x, "check(1, 6) of one that is cut off", () -> x.check(1, 6), NOT);
        refused(x, "check(1, 1) of one that is cut off", () -> x.check(1, 1), NOT);
        refused(x, "check(1, 0) of one that is cut off", () -> x.check(1, 0), BAD);
        refusedAll(x, "check(v, 1)", v -> x.check(v, 1), 0, 2, 3, 4, -1, Integer.MAX_VALUE, Integer.MIN_VALUE);
        CodedRelays y = lazyRelay();
        refusedAll(y, "check(1, v)", v -> y.check(1, v), 0, 16, -1, Integer.MAX_VALUE, Integer.MIN_VALUE);
        y.check(1, 2);
        y.check(1, 2);
        y.setLimit(1);
        due("a check without suspicion cuts nobody off", y.check(1, 1), 2);
        due("isCutOff(1)", y.isCutOff(1), 0);
        due("one with more marks than the limit", y.check(1, 2), 3);
        due("isCutOff(1)", y.isCutOff(1), 1);
        long state = stateOf(y);
        y.check(1, 2);
        due("no random number is taken", stateOf(y), state);
    }

    static void promise31() {
        CodedRelays x = lazyRelay();
        x.setState(stateFor(1, 0, 15, 1));
        int state = stateOf(x);
        due("checkRandomly(1) for 2", x.checkRandomly(1), 1);
        due("two random numbers", stateOf(x), after(state, 2));
        due("marks(1)", x.marks(1), 1);
        x.setState(stateFor(1, 0, 15, 0));
        due("checkRandomly(1) for 1", x.checkRandomly(1), 0);
        due("marks(1)", x.marks(1), 1);
        x.setState(stateFor(1, 0, 15, 1, 1, 0, 15, 3));
        state = stateOf(x);
        due("checkRandomly(50) ends with the third mark", x.checkRandomly(50), 2);
        due("no number is taken when all relays are cut off", stateOf(x), after(state, 4));
        due("isCutOff(1)", x.isCutOff(1), 1);
        CodedRelays none = new CodedRelays();
        due("checkRandomly(50) without relays", none.checkRandomly(50), 0);
        due("no number is taken then", stateOf(none), 1);
        whichRelay();
        CodedRelays z = busy();
        refusedAll(z, "checkRandomly", z::checkRandomly, 0, 51, -1, Integer.MAX_VALUE, Integer.MIN_VALUE);
    }

    private static void whichRelay() {
        CodedRelays large = network(10, 0, 8, 0, 8, 9, 0);
        large.setBehavior(8, CodedRelays.SILENT);
        large.runUntil(8);
        due("checkRandomly(50) with ten nodes", large.checkRandomly(50), 3);
        due("isCutOff(8)", large.isCutOff(8), 1);
        // Relays are 1, 2 and 4; node 3 is none, nor is the source.
        CodedRelays x = network(6, 0, 4, 0, 0, 2, 0, 0, 1, 0, 4, 5, 0, 2, 5, 0, 1, 5, 0, 0, 3, 0);
        x.setBehavior(1, CodedRelays.SILENT);
        x.setBehavior(2, CodedRelays.SILENT);
        x.setBehavior(4, CodedRelays.SILENT);
        x.run(50);
        x.setLimit(1);
        x.setState(stateFor(3, 1, 15, 5, 2, 1, 15, 9));
        due("checkRandomly(1)", x.checkRandomly(1), 1);
        due("the second of three is node 2", x.isCutOff(2), 1);
        due("checkRandomly(1)", x.checkRandomly(1), 1);
        due("the second of the two that are left is node 4", x.isCutOff(4), 1);
        due("isCutOff(1)", x.isCutOff(1), 0);
        due("checkRandomly(50)", x.checkRandomly(50), 1);
        due("isCutOff(1)", x.isCutOff(1), 1);
    }

    static void promise32() {
        CodedRelays x = lazyRelay();
        due("marks(1)", x.marks(1), 0);
        x.setLimit(9);
        for (int i = 1; i <= 9; i++) {
            x.check(1, 4);
            due("marks(1)", x.marks(1), i);
        }
        x.check(1, 4);
        due("marks(1) stay", x.marks(1), 9);
        due("marks(0)", x.marks(0), 0);
        due("marks(3)", x.marks(3), 0);
        refusedAll(x, "marks", x::marks, -1, 4, 9, 10, Integer.MAX_VALUE, Integer.MIN_VALUE);
    }

    static void promise33() {
        CodedRelays x = lazyRelay();
        for (int i = 0; i < 4; i++) {
            due("isCutOff(" + i + ")", x.isCutOff(i), 0);
        }
        x.setLimit(2);
        x.check(1, 2);
        due("isCutOff(1)", x.isCutOff(1), 0);
        x.check(1, 2);
        due("isCutOff(1)", x.isCutOff(1), 1);
        due("isCutOff(2)", x.isCutOff(2), 0);
        x.run(5);
        due("isCutOff(1) for the rest of the generation", x.isCutOff(1), 1);
        refusedAll(x, "isCutOff", x::isCutOff, -1, 4, 9, 10, Integer.MAX_VALUE, Integer.MIN_VALUE);
        x.setPayload(0, 0);
        due("isCutOff(1) in the next one", x.isCutOff(1), 0);
    }

    static void promise34() {
        CodedRelays x = lazyRelay();
        due("sentRank(1) of a lazy relay", x.sentRank(1), 1);
        refusedAll(x, "sentRank", x::sentRank, 0, 2, 3, 4, -1, Integer.MAX_VALUE, Integer.MIN_VALUE);
        CodedRelays y = network(4, 0, 1, 0, 1, 2, 1, 1, 3, 0);
        due("sentRank(1) at the beginning", y.sentRank(1), 0);
        roundWith(y, 1);
        due("sentRank(1)", y.sentRank(1), 0);
        roundWith(y, 2);
        due("sentRank(1) of 1 and 1", y.sentRank(1), 1);
        y.setState(stateFor(15, 3, 3, 2, 3, 1));
        y.run(1);
        due("sentRank(1) of 1, 3 (lost) and 2", y.sentRank(1), 2);
        y.run(50);
        due("sentRank(1)", y.sentRank(1), 4);
    }

    static void promise35() {
        CodedRelays x = network(5, 0, 1, 0, 1, 2, 0, 2, 3, 0, 0, 2, 0, 1, 3, 0);
        due("flow(3), where a way must be turned", x.flow(3), 2);
        due("flow(1)", x.flow(1), 1);
        due("flow(2)", x.flow(2), 2);
        due("flow(4)", x.flow(4), 0);
        refusedAll(x, "flow", x::flow, 0, 5, -1, 9, 10, Integer.MAX_VALUE, Integer.MIN_VALUE);
        CodedRelays y = network(3);
        for (int i = 1; i <= 20; i++) {
            y.addLink(0, 2, i % 10);
            due("flow(2) of " + i + " links", y.flow(2), i);
        }
        CodedRelays z = busy();
        due("node 1 is cut off", z.isCutOff(1), 1);
        due("flow(1) of one that is cut off", z.flow(1), 0);
        due("flow(2) over what is open", z.flow(2), 1);
        z.setPayload(0, 17);
        due("flow(2) in the next generation", z.flow(2), 2);
        due("flow(1) with losses", z.flow(1), 1);
        due("flow(3) through a silent node", z.flow(3), 1);
    }

    static void promise36() {
        CodedRelays x = network(5, 1, 2, 0, 0, 1, 0, 2, 3, 0, 0, 2, 0, 1, 3, 0);
        due("neededLink(3)", x.neededLink(3), 1);
        due("neededLink(2)", x.neededLink(2), 0);
        due("neededLink(1)", x.neededLink(1), 1);
        due("neededLink(4)", x.neededLink(4), NONE);
        x.addLink(3, 4, 0);
        due("neededLink(4)", x.neededLink(4), 5);
        x.addLink(3, 4, 0);
        due("neededLink(4) with two", x.neededLink(4), 1);
        refusedAll(x, "neededLink", x::neededLink, 0, 5, -1, 9, 10, Integer.MAX_VALUE, Integer.MIN_VALUE);
        CodedRelays twice = network(3, 1, 2, 0, 1, 2, 0, 0, 1, 0);
        due("neededLink(2): either of the first two would do", twice.neededLink(2), 2);
        CodedRelays before = network(3, 0, 1, 0, 0, 1, 0, 1, 2, 0);
        due("neededLink(2): either of the first two would do", before.neededLink(2), 2);
        CodedRelays y = busy();
        due("neededLink(1) of one that is cut off", y.neededLink(1), NONE);
        due("neededLink(2): only open links", y.neededLink(2), 2);
        y.setPayload(0, 17);
        due("neededLink(2) in the next generation", y.neededLink(2), 0);
        due("neededLink(3)", y.neededLink(3), 3);
        due("neededLink(1) without links", new CodedRelays().neededLink(1), NONE);
    }

    static void promise37() {
        CodedRelays x = new CodedRelays();
        due("append(32)", x.append(32), 1);
        due("append(126)", x.append(126), 2);
        refusedAll(x, "append", x::append, 31, 127, 0, -1, 65536 + 48, Integer.MAX_VALUE, Integer.MIN_VALUE);
        for (int i = 3; i <= 100; i++) {
            due("append(48)", x.append(48), i);
        }
        due("append(48) of the 101st", x.append(48), FULL);
        due("append(31) when it is full", x.append(31), BAD);
        due("clearText()", x.clearText(), 100);
        due("append(48)", x.append(48), 1);
        CodedRelays y = busy();
        long before = y.checksum();
        y.append(48);
        due("append() changes the text alone", y.checksum(), before);
    }

    static void promise38() {
        CodedRelays x = busy();
        long before = x.checksum();
        due("clearText()", x.clearText(), 0);
        write(x, "xyz");
        due("faultPosition()", x.faultPosition(), 0);
        due("clearText()", x.clearText(), 3);
        due("clearText() again", x.clearText(), 0);
        due("faultPosition()", x.faultPosition(), NONE);
        due("it changes the text alone", x.checksum(), before);
    }

    static void promise39() {
        CodedRelays x = new CodedRelays();
        String[] sound = {"", "0>1;", "0>1/0;", "0>1/9;", "3>4;", "b1=0;", "b4=4;", "0>1;b1=3;2>3/1;", "0>1;0>1;"};
        for (String text : sound) {
            due("faultPosition() of " + text, faultOf(x, text), NONE);
        }
        Object[][] faulty = {
            {";", 0}, {"0", 1}, {"0>", 2}, {"0>1", 3}, {"0>1/", 4}, {"0>1/9", 5}, {"0>1/12;", 5}, {"0>1/a;", 4},
            {"0>1//", 4}, {"0>1/;", 4}, {"0>0;", 2}, {"1>0;", 2}, {"3>3;", 2}, {"3>2;", 2}, {"5>6;", 0}, {"9", 0},
            {"4", 1}, {"4>", 2}, {"4>4;", 2}, {"4>5;", 2}, {"0>5;", 2}, {"0>9;", 2}, {"0>a;", 2}, {"0>>", 2},
            {"b", 1}, {"b0=1;", 1}, {"b5=1;", 1}, {"bb", 1}, {"b1", 2}, {"b1=", 3}, {"b1=5;", 3}, {"b1=9;", 3},
            {"b1=4", 4}, {"b1=44;", 4}, {"b1=1/1;", 4}, {"b1>2;", 2}, {"b1=;", 3}, {"B1=1;", 0}, {" 0>1;", 0},
            {"0>1; ", 4}, {"0>1;;", 4}, {"0>1 ;", 3}, {"0=1;", 1}, {"0>1=1;", 3}, {"01>2;", 1}, {"0>12;", 3},
            {"0>1;b1=3;2>1;", 11}, {"a", 0}, {"/", 0}, {">", 0}, {"=", 0}, {"-", 0}, {":", 0}, {"0>:", 2}, {"0>1/:", 4}};
        for (Object[] pair : faulty) {
            due("faultPosition() of " + pair[0], faultOf(x, (String) pair[0]), (Integer) pair[1]);
        }
        faultsByNetwork();
    }

    private static void faultsByNetwork() {
        CodedRelays x = new CodedRelays();
        due("with five nodes", faultOf(x, "0>4;b4=1;"), NONE);
        x.setNodes(4);
        due("with four nodes", x.faultPosition(), 2);
        x.setNodes(10);
        due("with ten nodes", faultOf(x, "8>9/9;b9=4;"), NONE);
        due("9 first with ten nodes", faultOf(x, "9>9"), 2);
        x.setNodes(3);
        due("3 with three nodes", faultOf(x, "3"), 0);
        due("b3 with three nodes", faultOf(x, "b3"), 1);
        for (int i = 0; i < 18; i++) {
            x.addLink(0, 1, 0);
        }
        due("room for two", faultOf(x, "0>1;b1=1;0>2;"), NONE);
        due("no room for a third one", faultOf(x, "0>1;b1=1;0>2;b2=1;0>1;"), 18);
        x.addLink(0, 1, 0);
        x.addLink(0, 1, 0);
        due("no room", faultOf(x, "0>1;"), 0);
        due("behaviors need no room", faultOf(x, "b1=1;b2=2;"), NONE);
        due("an empty text needs no room", faultOf(x, ""), NONE);
        long before = x.checksum();
        x.faultPosition();
        due("it changes nothing", x.checksum(), before);
    }

    static void promise40() {
        CodedRelays x = busy();
        int state = stateOf(x);
        write(x, "0>3/4;b1=2;1>3;b1=3;b3=1;");
        due("read()", x.read(), 5);
        begun(x, state, 5);
        due("links()", x.links(), 6);
        int[][] want = {{0, 3, 4}, {1, 3, 0}};
        for (int i = 0; i < 2; i++) {
            for (int what = 0; what < 3; what++) {
                due("link(" + (4 + i) + ", " + what + ")", x.link(4 + i, what), want[i][what]);
            }
        }
        due("the last behavior holds", x.setBehavior(1, 0), CodedRelays.ALTERING);
        due("others stay", x.setBehavior(2, 0), CodedRelays.SILENT);
        due("the behavior of node 3", x.setBehavior(3, 0), CodedRelays.LAZY);
        due("read() again, for the text stays", x.read(), 5);
        due("links()", x.links(), 8);
        due("clearText()", x.clearText(), 25);
        x.run(2);
        due("read() of an empty text", x.read(), 0);
        due("it begins a generation", x.rounds(), 0);
        CodedRelays y = busy();
        write(y, "0>1;b3=1;0>4;");
        refused(y, "read() with a fault", y::read, NOT);
        due("no entry is carried out", y.setBehavior(3, 0), CodedRelays.HONEST);
        due("the text stays", y.clearText(), 13);
        CodedRelays z = busy();
        write(z, "0>1;0>1");
        refused(z, "read() of one that ends too early", z::read, NOT);
        fullTexts();
    }

    private static void fullTexts() {
        CodedRelays x = network(10);
        write(x, "0>1;0>2;0>3;0>4;0>5;0>6;0>7;0>8;0>9;1>2;1>3;1>4;1>5;1>6;1>7;1>8;1>9;2>3;2>4;2>5/7;");
        due("read() of 20 links", x.read(), 20);
        due("link(19, 2)", x.link(19, 2), 7);
        due("link(18, 2)", x.link(18, 2), 0);
        refused(x, "read() without room", x::read, NOT);
        due("links()", x.links(), 20);
        CodedRelays y = network(10);
        for (int i = 0; i < 20; i++) {
            write(y, "b" + (1 + i % 9) + "=" + i % 5 + ";");
        }
        due("read() of 100 characters", y.read(), 20);
        due("the last behavior of node 2", y.setBehavior(2, 0), 19 % 5);
        due("links()", y.links(), 0);
    }

    static void promise41() {
        CodedRelays x = busy();
        long before = x.checksum();
        due("keep(0)", x.keep(0), 12);
        due("it changes nothing", x.checksum(), before);
        x.run(1);
        due("keep(1)", x.keep(1), 13);
        long later = x.checksum();
        x.setNodes(5);
        due("keep(1) is another slot", x.restore(0), 12);
        due("checksum()", x.checksum(), before);
        due("restore(1)", x.restore(1), 13);
        due("checksum()", x.checksum(), later);
        due("keep(0) in place of what it keeps", x.keep(0), 13);
        x.setNodes(5);
        x.restore(0);
        due("checksum()", x.checksum(), later);
        refusedAll(x, "keep", x::keep, -1, 2, Integer.MAX_VALUE, Integer.MIN_VALUE);
        CodedRelays y = new CodedRelays();
        due("keep(1) of a new object", y.keep(1), 0);
        due("slot 0 is empty still", y.restore(0), NOT);
    }

    static void promise42() {
        CodedRelays x = busy();
        x.setPackets(5);
        x.setPayload(4, 7);
        x.setBehavior(3, CodedRelays.HOLDING);
        x.setState(12345);
        x.run(5);
        x.setLimit(1);
        x.check(1, firstSuspicion(x, 1));
        x.setLimit(4);
        write(x, "0>1;");
        String kept = picture(x);
        due("keep(0)", x.keep(0), 5);
        x.run(7);
        String later = picture(x);
        x.clearText();
        write(x, "0>1/1;;");
        x.setNodes(10);
        x.setPackets(8);
        for (int i = 0; i < 20; i++) {
            x.addLink(i % 9, i % 9 + 1, i % 10);
        }
        x.setState(9);
        x.run(50);
        x.setLimit(9);
        due("restore(0)", x.restore(0), 5);
        due("the text is not restored", x.clearText(), 7);
        write(x, "0>1;");
        due("all is as it was", picture(x).equals(kept) ? 1 : 0, 1);
        x.run(7);
        due("all goes on as it did", picture(x).equals(later) ? 1 : 0, 1);
        due("restore(0) again", x.restore(0), 5);
        due("the slot keeps it", picture(x).equals(kept) ? 1 : 0, 1);
        due("the limit", x.setLimit(4), 4);
        due("the behavior of node 3", x.setBehavior(3, 0), CodedRelays.HOLDING);
        due("the behavior of node 2", x.setBehavior(2, 0), CodedRelays.SILENT);
        due("the payload", x.setPayload(4, 0), 7);
        due("the packets", x.setPackets(4), 5);
        due("restore(0)", x.restore(0), 5);
        due("what came after keep() is not in the slot", picture(x).equals(kept) ? 1 : 0, 1);
        refused(x, "restore(1)", () -> x.restore(1), NOT);
        refusedAll(x, "restore", x::restore, -1, 2, Integer.MAX_VALUE, Integer.MIN_VALUE);
        lossesGoOn();
    }

    private static void lossesGoOn() {
        CodedRelays x = network(3, 0, 1, 3);
        x.run(2);
        x.keep(1);
        for (int i = 0; i < 3; i++) {
            due("restore(1)", x.restore(1), 2);
            due("fates(0, LOST)", x.fates(0, CodedRelays.LOST), 0);
            x.run(1);
            due("the third one is lost", x.fates(0, CodedRelays.LOST), 1);
        }
    }

    static void promise43() {
        due("of a new object", new CodedRelays().checksum(), checksumOf(new CodedRelays()));
        CodedRelays x = busy();
        due("of a busy one", x.checksum(), checksumOf(x));
        due("again", x.checksum(), checksumOf(x));
        x.setState(2147483647);
        due("with another state", x.checksum(), checksumOf(x));
        x.setBehavior(2, CodedRelays.ALTERING);
        due("with links over which nothing was sent", x.checksum(), checksumOf(x));
        x.run(9);
        due("with conflicts", x.checksum(), checksumOf(x));
        x.append(48);
        long before = x.checksum();
        x.setLimit(9);
        due("the limit and the text are not in it", x.checksum(), before);
        CodedRelays y = longWay(1);
        y.run(50);
        due("of a large one", y.checksum(), checksumOf(y));
    }

    private static long checksumOf(CodedRelays x) {
        long h = 61;
        h = 31 * h + x.nodes();
        h = 31 * h + x.links();
        h = 31 * h + x.rounds();
        h = 31 * h + stateOf(x);
        for (int i = 0; i < x.nodes(); i++) {
            h = 31 * h + x.rank(i);
            for (int j = 0; j < x.rank(i); j++) {
                h = 31 * h + x.vector(i, j);
                h = 31 * h + x.payload(i, j);
            }
            h = 31 * h + x.marks(i);
            h = 31 * h + x.isCutOff(i);
        }
        for (int i = 0; i < x.links(); i++) {
            for (int fate = CodedRelays.LOST; fate <= CodedRelays.CONFLICTING; fate++) {
                h = 31 * h + x.fates(i, fate);
            }
            h = 31 * h + x.lastSent(i);
            h = 31 * h + x.endSum(i, false);
            h = 31 * h + x.endSum(i, true);
        }
        return h;
    }
}
