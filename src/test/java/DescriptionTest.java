import java.lang.reflect.Method;
import java.lang.reflect.Modifier;
import java.util.Arrays;
import java.util.List;
import java.util.function.Consumer;
import java.util.function.ToIntFunction;

/** The boundaries that the Description names, a test for each: what holds for several promises. */
public final class DescriptionTest extends Sentences {
    private static final int MAX = Integer.MAX_VALUE;

    public static void main(String[] args) throws Exception {
        runAll(DescriptionTest.class, 0, 0,
            // The heads of the paragraphs.
            "Return values.", "Packets.", "The network.", "Random numbers.", "Rounds.", "Ends of links.", "Checks.",
            "Solving.", "Texts.", "The constants:", "Each relay (as each other node) has a behavior:",
            "The constructor and the methods follow, a promise each: the signature, then what it does.",
            // LanguageTest asks for the constants of behaviors and fates.
            "`HONEST = 0, LAZY = 1, HOLDING = 2, ALTERING = 3, SILENT = 4`: Behaviors.",
            "`LOST = 0, NEW = 1, REDUNDANT = 2, CONFLICTING = 3`: What becomes of sums that are sent.",
            // The same again behind a constant.
            "not an error.");
    }

    // ---- the use of an object

    @Says(promise = -1, value = "An object is used for at most 512 calls after it has been made")
    static void lastCall() {
        List<ToIntFunction<CodedRelays>> questions = List.of(CodedRelays::rounds, x -> x.fates(0, 0),
            x -> x.fates(2, 0), x -> x.rank(1), x -> x.knows(9), x -> x.runUntil(9), x -> x.append(48));
        // With 505 calls of run() there are 25250 rounds; every ninth of link 0 is lost, all of link 2.
        int[] answers = {25250, 2805, 25250, 8, 0, NONE, 1};
        for (int i = 0; i < answers.length; i++) {
            CodedRelays x = network(10, 0, 1, 9, 1, 2, 0, 0, 9, 1);
            x.setPackets(8);
            x.setState(2147483647);
            for (int call = 7; call <= 511; call++) {
                x.run(50);
            }
            due("the 512th call, question " + i, questions.get(i).applyAsInt(x), answers[i]);
        }
    }

    // ---- return values

    @Says("BAD_VALUE: an argument is out of its range, or names something that does not exist.")
    static void extremeArguments() throws Exception {
        for (Method method : CodedRelays.class.getDeclaredMethods()) {
            if (!Modifier.isPublic(method.getModifiers())) {
                continue;
            }
            for (int i = 0; i < method.getParameterCount(); i++) {
                if (method.getParameterTypes()[i] != int.class) {
                    continue;
                }
                outOfRange(method, i, Integer.MIN_VALUE);
                if (!method.getName().equals("setState")) {
                    outOfRange(method, i, MAX);
                }
            }
        }
    }

    private static void outOfRange(Method method, int place, int value) throws Exception {
        Object[] arguments = new Object[method.getParameterCount()];
        Arrays.fill(arguments, 1);
        if (method.getName().equals("endSum")) {
            arguments[1] = true;
        }
        if (method.getName().equals("addLink")) {
            arguments[1] = 2;
        }
        arguments[place] = value;
        CodedRelays x = lively();
        due(method.getName() + Arrays.toString(arguments), ((Number) method.invoke(x, arguments)).longValue(), BAD);
        sameStory(method.getName() + Arrays.toString(arguments) + " changes nothing", x, lively());
    }

    @Says("`BAD_VALUE = -1`: An argument is out of its range, or names something that does not exist.")
    static void badValue() {
        due("BAD_VALUE", CodedRelays.BAD_VALUE, -1);
        due("a node that does not exist", new CodedRelays().rank(5), CodedRelays.BAD_VALUE);
        due("a link that does not exist", new CodedRelays().lastSent(0), CodedRelays.BAD_VALUE);
        due("a sum that does not exist", new CodedRelays().vector(1, 0), CodedRelays.BAD_VALUE);
        due("a relay that does not exist", new CodedRelays().suspicions(1), CodedRelays.BAD_VALUE);
    }

    @Says("FULL: there is no room.")
    static void noRoom() {
        due("FULL", CodedRelays.FULL, -2);
        due("a link more", full().addLink(0, 1, 0), CodedRelays.FULL);
        due("a character more", full().append(48), CodedRelays.FULL);
    }

    @Says("`FULL = -2`: There is no room.")
    static void roomAgain() {
        CodedRelays x = full();
        x.removeLink();
        due("a link when one was removed", x.addLink(0, 1, 0), 19);
        due("a link more", x.addLink(0, 1, 0), CodedRelays.FULL);
        x.clearText();
        due("a character when the text is empty", x.append(48), 1);
    }

    @Says("NOT_POSSIBLE: the call is not possible now.")
    static void notNow() {
        due("NOT_POSSIBLE", CodedRelays.NOT_POSSIBLE, -3);
        due("removeLink()", new CodedRelays().removeLink(), CodedRelays.NOT_POSSIBLE);
        due("restore(0)", new CodedRelays().restore(0), CodedRelays.NOT_POSSIBLE);
        due("check(1, 1)", full().check(1, 1), CodedRelays.NOT_POSSIBLE);
        CodedRelays x = new CodedRelays();
        x.append('x');
        due("read()", x.read(), CodedRelays.NOT_POSSIBLE);
    }

    @Says("`NOT_POSSIBLE = -3`: The call is not possible now.")
    static void possibleLater() {
        CodedRelays x = new CodedRelays();
        due("removeLink()", x.removeLink(), CodedRelays.NOT_POSSIBLE);
        x.addLink(0, 1, 0);
        due("removeLink() when there is one", x.removeLink(), 0);
        due("restore(1)", x.restore(1), CodedRelays.NOT_POSSIBLE);
        x.keep(1);
        due("restore(1) when it keeps something", x.restore(1), 0);
        x.append('x');
        due("read()", x.read(), CodedRelays.NOT_POSSIBLE);
        x.clearText();
        due("read() without the fault", x.read(), 0);
    }

    @Says("Each method names its errors in the order in which they are checked, and returns the first one that applies")
    static void orderOfErrors() {
        refused(Sentences::full, "addLink(1, 1, 0)", x -> x.addLink(1, 1, 0), BAD);
        refused(Sentences::full, "addLink(0, 1, -1)", x -> x.addLink(0, 1, -1), BAD);
        refused(Sentences::full, "addLink(0, 1, 0)", x -> x.addLink(0, 1, 0), FULL);
        refused(Sentences::full, "append(31)", x -> x.append(31), BAD);
        refused(Sentences::full, "append(32)", x -> x.append(32), FULL);
        refused(Sentences::full, "check(1, 0)", x -> x.check(1, 0), BAD);
        refused(Sentences::full, "check(1, 16)", x -> x.check(1, 16), BAD);
        refused(Sentences::full, "check(1, 15)", x -> x.check(1, 15), NOT);
        refused(Sentences::full, "restore(2)", x -> x.restore(2), BAD);
        refused(Sentences::full, "restore(1)", x -> x.restore(1), NOT);
    }

    @Says("a call that returns an error changes nothing.")
    static void errorsInARow() {
        // The tests of each range ask for one call at a time; here all follow each other.
        CodedRelays x = lively();
        int answers = 0;
        for (ToIntFunction<CodedRelays> call : REFUSED) {
            answers += call.applyAsInt(x) < 0 ? 1 : 0;
        }
        due("refused calls", answers, REFUSED.size());
        sameStory("refused calls change nothing", x, lively());
    }

    private static final List<ToIntFunction<CodedRelays>> REFUSED = List.of(
        x -> x.setPackets(9), x -> x.setPayload(4, 0), x -> x.setPayload(0, 256), x -> x.setNodes(11),
        x -> x.addLink(2, 2, 0), x -> x.addLink(0, 1, 10), x -> x.setBehavior(0, 1), x -> x.setBehavior(1, 5),
        x -> x.setState(-1), x -> x.setLimit(0), x -> x.setLimit(10), x -> x.run(0), x -> x.run(51),
        x -> x.runUntil(4), x -> x.check(1, 1), x -> x.check(3, 1), x -> x.check(2, 16), x -> x.checkRandomly(0),
        x -> x.checkRandomly(51), x -> x.append(127), x -> x.keep(2), x -> x.restore(1), x -> x.restore(2));

    @Says("NONE is no error")
    static void noneIsNoError() {
        due("NONE", CodedRelays.NONE, -4);
        CodedRelays x = line();
        x.setBehavior(1, CodedRelays.SILENT);
        due("runUntil(2)", x.runUntil(2), CodedRelays.NONE);
        due("it has changed something", x.rounds(), 50);
        due("rank(1)", x.rank(1), 4);
    }

    @Says("it means that there is no such thing, and it is returned only if no error applies.")
    static void noneAfterErrors() {
        CodedRelays x = new CodedRelays();
        due("runUntil(5), which does not exist", x.runUntil(5), BAD);
        due("lastSent(0), which does not exist", x.lastSent(0), BAD);
        due("solve(5, 0)", x.solve(5, 0), BAD);
        due("solve(1, 4)", x.solve(1, 4), BAD);
        due("combination(5, 1)", x.combination(5, 1), BAD);
        due("combination(1, 16)", x.combination(1, 16), BAD);
        due("neededLink(5)", x.neededLink(5), BAD);
        due("neededLink(0)", x.neededLink(0), BAD);
        due("solve(1, 3)", x.solve(1, 3), NONE);
        due("combination(1, 15)", x.combination(1, 15), NONE);
        due("neededLink(4)", x.neededLink(4), NONE);
    }

    @Says("`NONE = -4`: There is no such thing;")
    static void noSuchThing() {
        due("faultPosition() of an empty text", new CodedRelays().faultPosition(), CodedRelays.NONE);
        due("lastSent(0)", line().lastSent(0), CodedRelays.NONE);
        due("the index 0 is something", faultOf(new CodedRelays(), "x"), 0);
        due("a payload of 0 is something", zeroPayload().solve(0, 0), 0);
        due("link 0 is something", line().neededLink(1), 0);
    }

    private static CodedRelays zeroPayload() {
        CodedRelays x = new CodedRelays();
        x.setPayload(0, 0);
        return x;
    }

    // ---- packets

    @Says("A generation has k packets, 0 to k - 1, with k from 2 to 8, at first 4.")
    static void packets() {
        due("rank(0) at first", new CodedRelays().rank(0), 4);
        for (int k = 2; k <= 8; k++) {
            CodedRelays x = network(3, 0, 1, 0);
            x.setPackets(k);
            x.setState(stateFor((1 << k) - 1, (1 << k) - 2));
            x.run(1);
            due("the sum of all, of " + k, x.lastSent(0), (1 << k) - 1);
        }
    }

    @Says("Packet i has a payload from 0 to 255, at first 17 * (i + 1).")
    static void payloads() {
        CodedRelays x = new CodedRelays();
        x.setPackets(8);
        int[] first = {17, 34, 51, 68, 85, 102, 119, 136};
        for (int i = 0; i < 8; i++) {
            due("solve(0, " + i + ")", x.solve(0, i), first[i]);
            due("setPayload(" + i + ", 255)", x.setPayload(i, 255), first[i]);
            due("setPayload(" + i + ", 0)", x.setPayload(i, 0), 255);
        }
        due("payload(0, 7)", x.payload(0, 7), 0);
    }

    @Says("A sum of packets has a vector, a number in which bit i is set if packet i is in the sum, and a payload, "
        + "the exclusive or of the payloads of these packets.")
    static void sumsOfOneAndOfAll() {
        CodedRelays x = network(3, 0, 1, 0, 0, 2, 0);
        x.setPackets(8);
        x.setState(stateFor(255, 127, 255, 254));
        x.run(1);
        due("the vector of packet 7 alone", x.vector(1, 0), 128);
        due("the payload of packet 7 alone", x.payload(1, 0), 136);
        due("the vector of all packets", x.vector(2, 0), 255);
        due("the payload of all packets", x.payload(2, 0), 17 ^ 34 ^ 51 ^ 68 ^ 85 ^ 102 ^ 119 ^ 136);
    }

    @Says("All sums are sums modulo 2, that is, exclusive ors, of vectors and of payloads likewise.")
    static void twiceIsNothing() {
        CodedRelays x = line();
        for (int i = 0; i < 4; i++) {
            x.setPayload(i, 255);
        }
        roundWith(x, 3);
        due("the payload of two that are alike", x.payload(1, 0), 0);
        roundWith(x, 7);
        due("the payload of three that are alike", x.payload(1, 1), 255);
        // Both sums of node 1 have packets 0 and 1, which are gone from the sum of both.
        x.setState(stateFor(15, 2, 3, 2));
        x.run(1);
        due("the sum of both", x.lastSent(1), 4);
    }

    // ---- the network

    @Says("There are n nodes, 0 to n - 1, with n from 3 to 10, at first 5.")
    static void nodes() {
        due("rank(4) at first", new CodedRelays().rank(4), 0);
        due("rank(5) at first", new CodedRelays().rank(5), BAD);
        for (int n = 3; n <= 10; n++) {
            CodedRelays x = network(n, 0, n - 1, 0);
            due("run(1)", x.run(1), 1);
            due("rank(n - 1) of " + n, x.rank(n - 1), 1);
            due("rank(n) of " + n, x.rank(n), BAD);
        }
    }

    @Says("Node 0 is the source.")
    static void source() {
        CodedRelays x = network(3, 1, 2, 0);
        due("rank(0)", x.rank(0), 4);
        due("run(50) when no link leads from it", x.run(50), 0);
        due("flow(2)", x.flow(2), 0);
    }

    @Says("There are at most 20 links")
    static void twentyLinks() {
        CodedRelays x = new CodedRelays();
        for (int i = 0; i < 20; i++) {
            due("addLink(0, 4, 0)", x.addLink(0, 4, 0), i);
        }
        due("the 21st", x.addLink(0, 4, 0), FULL);
        x.run(1);
        for (int i = 0; i < 20; i++) {
            due("something was sent over " + i, x.lastSent(i) > 0 ? 1 : 0, 1);
        }
    }

    @Says("numbered from 0 in the order in which they are added")
    static void numbersOfLinks() {
        CodedRelays x = network(5, 3, 4, 0, 0, 1, 0, 2, 4, 0);
        due("link(0, 0)", x.link(0, 0), 3);
        due("link(1, 0)", x.link(1, 0), 0);
        due("link(2, 0)", x.link(2, 0), 2);
        due("link(3, 0)", x.link(3, 0), BAD);
    }

    @Says("a link leads from a node to another one with a higher number")
    static void upwards() {
        for (int from = 0; from < 5; from++) {
            for (int to = 0; to < 5; to++) {
                due("addLink(" + from + ", " + to + ", 0)", new CodedRelays().addLink(from, to, 0), from < to ? 0 : BAD);
            }
        }
    }

    @Says("has a loss p from 0 to 9: with p above 0, every p-th packet that is sent over it")
    static void everyLoss() {
        for (int p = 0; p <= 9; p++) {
            CodedRelays x = network(3, 0, 1, p);
            for (int sent = 1; sent <= 28; sent++) {
                x.run(1);
                due("LOST of " + sent + " with a loss of " + p, x.fates(0, 0), p == 0 ? 0 : sent / p);
            }
        }
    }

    @Says("counted from the beginning of the generation, is lost.")
    static void countedAnew() {
        CodedRelays x = network(3, 0, 1, 9);
        x.run(8);
        due("fates(0, LOST) of eight", x.fates(0, 0), 0);
        x.setPayload(0, 17);
        x.run(8);
        due("fates(0, LOST) of eight more", x.fates(0, 0), 0);
        x.run(1);
        due("fates(0, LOST) of nine", x.fates(0, 0), 1);
        CodedRelays y = network(3, 0, 1, 0, 1, 2, 2);
        y.run(2);
        due("the first over link 1 came in round 2", y.fates(1, 0), 0);
        y.run(1);
        due("the second is lost", y.fates(1, 0), 1);
    }

    @Says("A relay is a node other than 0 from which a link leads (whether this is open or not).")
    static void relays() {
        CodedRelays x = network(4, 0, 1, 0, 1, 2, 0, 2, 3, 0);
        int[] want = {BAD, 0, 0, BAD};
        for (int i = 0; i < 4; i++) {
            due("suspicions(" + i + ")", x.suspicions(i), want[i]);
            due("sentRank(" + i + ")", x.sentRank(i), want[i]);
        }
        x.setBehavior(2, CodedRelays.SILENT);
        x.run(20);
        x.setLimit(1);
        x.check(2, firstSuspicion(x, 2));
        due("node 2 is cut off", x.isCutOff(2), 1);
        due("suspicions(1), whose link is not open", x.suspicions(1), 0);
        due("sentRank(1), whose link is not open", x.sentRank(1), 4);
        due("check(1, 1), whose link is not open", x.check(1, 1), 0);
        due("suspicions(2) of one that is cut off", x.suspicions(2), 15);
        due("sentRank(2) of one that is cut off", x.sentRank(2), 0);
    }

    @Says("A link is open if neither of its ends is cut off")
    static void openLinks() {
        // Both ways from 0 to 3, by 1 and by 2; then node 1 is cut off.
        CodedRelays x = network(4, 0, 1, 0, 1, 3, 0, 0, 2, 0, 2, 3, 0);
        x.setBehavior(1, CodedRelays.LAZY);
        x.run(20);
        due("flow(3)", x.flow(3), 2);
        x.setLimit(1);
        x.check(1, firstSuspicion(x, 1));
        due("flow(3) without node 1", x.flow(3), 1);
        due("flow(1)", x.flow(1), 0);
        int[] sums = new int[4];
        for (int i = 0; i < 4; i++) {
            sums[i] = x.fates(i, 1) + x.fates(i, 2);
        }
        int state = stateOf(x);
        x.run(5);
        int[] more = {0, 0, 5, 5};
        for (int i = 0; i < 4; i++) {
            due("sums over link " + i, x.fates(i, 1) + x.fates(i, 2), sums[i] + more[i]);
        }
        due("numbers are taken for open links alone", stateOf(x), after(state, 10));
    }

    @Says("at first no node is cut off.")
    static void nobodyAtFirst() {
        CodedRelays x = network(10);
        for (int i = 0; i < 10; i++) {
            due("isCutOff(" + i + ")", x.isCutOff(i), 0);
        }
    }

    @Says("HONEST (0), as at first, and node 0 always: it sends the sum of the chosen ones of all sums that it has")
    static void honestOnes() {
        due("setBehavior(0, LAZY)", line().setBehavior(0, CodedRelays.LAZY), BAD);
        due("setBehavior(1, HONEST)", line().setBehavior(1, CodedRelays.HONEST), CodedRelays.HONEST);
        for (int choice = 1; choice < 8; choice++) {
            CodedRelays x = threeSums(CodedRelays.HONEST);
            x.setState(stateFor(15, 0, 7, choice - 1));
            x.run(1);
            due("choice " + choice + " of 1, 2 and 4", x.lastSent(1), choice);
        }
    }

    /** Relay 1 has 1, 2 and 4 with their payloads 17, 34 and 51. */
    private static CodedRelays threeSums(int behavior) {
        CodedRelays x = line();
        x.setBehavior(1, behavior);
        roundWith(x, 1);
        roundWith(x, 2);
        roundWith(x, 4);
        return x;
    }

    @Says("LAZY (1): it sends the first sum that it has")
    static void lazyOnes() {
        CodedRelays x = line();
        x.setBehavior(1, CodedRelays.LAZY);
        roundWith(x, 12);
        due("nothing in the first round", x.lastSent(1), NONE);
        for (int vector : new int[] {1, 2, 4, 8}) {
            int state = stateFor(15, vector - 1);
            x.setState(state);
            x.run(1);
            due("the first sum", x.lastSent(1), 12);
            due("no number is taken for it", stateOf(x), after(state, 1));
        }
        due("rank(1)", x.rank(1), 4);
        due("rank(2)", x.rank(2), 1);
        due("payload(2, 0)", x.payload(2, 0), 51 ^ 68);
    }

    @Says("of the first h sums that it has, where h is half of their number, rounded up")
    static void holdingOnes() {
        int[] halves = {1, 1, 2, 2, 3, 3, 4, 4};
        CodedRelays x = line();
        x.setPackets(8);
        x.setBehavior(1, CodedRelays.HOLDING);
        for (int rank = 1; rank <= 8; rank++) {
            x.setState(stateFor(255, (1 << rank - 1) - 1));
            x.run(1);
            due("rank(1)", x.rank(1), rank);
            int all = (1 << halves[rank - 1]) - 1;
            int state = stateFor(255, 0, all, all - 1);
            x.setState(state);
            x.run(1);
            due("the greatest choice with " + rank + " sums", x.lastSent(1), all);
            due("two numbers are taken", stateOf(x), after(state, 2));
            x.setState(stateFor(255, 0, all, 0));
            x.run(1);
            due("the least choice with " + rank + " sums", x.lastSent(1), 1);
        }
    }

    @Says("ALTERING (3): as HONEST, but with a payload in which bit 0 is changed")
    static void alteringOnes() {
        int[] payloads = {0, 255, 1, 254};
        for (int payload : payloads) {
            CodedRelays x = line();
            x.setPayload(0, payload);
            x.setBehavior(1, CodedRelays.ALTERING);
            roundWith(x, 1);
            due("payload(1, 0) is not altered", x.payload(1, 0), payload);
            int state = stateFor(15, 0, 1, 0);
            x.setState(state);
            x.run(1);
            due("vector(2, 0)", x.vector(2, 0), 1);
            due("payload(2, 0) of " + payload, x.payload(2, 0), payload % 2 == 0 ? payload + 1 : payload - 1);
            due("two numbers are taken", stateOf(x), after(state, 2));
        }
    }

    @Says("SILENT (4): it sends nothing.")
    static void silentOnes() {
        CodedRelays x = threeSums(CodedRelays.SILENT);
        int state = stateOf(x);
        x.run(50);
        due("lastSent(1)", x.lastSent(1), NONE);
        due("endSum(1, false)", x.endSum(1, false), 0);
        due("rank(2)", x.rank(2), 0);
        due("sentRank(1)", x.sentRank(1), 0);
        due("no number is taken for it", stateOf(x), after(state, 50));
    }

    @Says("Each node has the sums that it has accepted, in the order in which it accepted them")
    static void orderOfSums() {
        CodedRelays x = network(3, 0, 1, 0);
        int[] sent = {8, 8, 4, 12, 15, 3, 1};
        for (int vector : sent) {
            roundWith(x, vector);
        }
        int[] kept = {8, 4, 15, 1};
        for (int i = 0; i < 4; i++) {
            due("vector(1, " + i + ")", x.vector(1, i), kept[i]);
        }
        due("vector(1, 4)", x.vector(1, 4), BAD);
    }

    @Says("node 0 has the packets themselves, in the order of their numbers.")
    static void sumsOfTheSource() {
        for (int k = 2; k <= 8; k++) {
            CodedRelays x = new CodedRelays();
            x.setPackets(k);
            for (int i = 0; i < k; i++) {
                due("vector(0, " + i + ")", x.vector(0, i), 1 << i);
                due("payload(0, " + i + ")", x.payload(0, i), 17 * (i + 1));
            }
            due("vector(0, k)", x.vector(0, k), BAD);
        }
    }

    @Says("The rank of a node is the number of sums that it has.")
    static void rankOfAFullNode() {
        CodedRelays x = network(3, 0, 1, 0);
        x.setPackets(2);
        x.run(50);
        due("rank(1) is k at most", x.rank(1), 2);
        due("what came then was redundant", x.fates(0, 2), 48);
        due("rank(2)", x.rank(2), 0);
    }

    // ---- random numbers

    @Says("There is a state, 1 at first.")
    static void firstState() {
        due("the state", new CodedRelays().setState(0), 1);
        CodedRelays x = network(3, 0, 1, 0);
        x.run(1);
        due("the second state", stateOf(x), 1103515245 + 12345);
        due("the first number below 15 is 8", x.lastSent(0), 9);
    }

    @Says("the state becomes (state * 1103515245 + 12345) modulo 2147483648 (as longs)")
    static void statesWrapAround() {
        int[][] states = {
            {0, 12345}, {1, 1103527590}, {2147483647, 1043980748}, {2147483646, 2087949151},
            {2088216195, 0}, {230538014, 2147483647}};
        for (int[] pair : states) {
            CodedRelays x = network(3, 0, 1, 0);
            x.setState(pair[0]);
            x.run(1);
            due("the state after " + pair[0], stateOf(x), pair[1]);
        }
    }

    @Says("the random number is the state divided by 65536, modulo m.")
    static void leastAndGreatestNumbers() {
        // Each comes to a state: 0, 65535, 65536, 14 * 65536 + 65535, 15 * 65536, and the greatest of all.
        int[][] statesAndNumbers = {
            {2088216195, 0}, {2032319262, 0}, {1742513795, 1}, {1487452958, 14}, {1197647491, 0}, {230538014, 32767 % 15}};
        for (int[] pair : statesAndNumbers) {
            CodedRelays x = network(3, 0, 1, 0);
            x.setState(pair[0]);
            x.run(1);
            due("the number below 15 after " + pair[0], x.lastSent(0), pair[1] + 1);
        }
        CodedRelays x = line();
        roundWith(x, 6);
        x.setState(stateFor(15, 14));
        x.run(1);
        due("the number below 1", x.lastSent(1), 6);
    }

    @Says("To choose among m sums means to take the random number below 2 to the power of m, minus 1, plus 1")
    static void leastAndGreatestChoice() {
        for (int m = 2; m <= 8; m++) {
            int most = (1 << m) - 1;
            CodedRelays x = network(3, 0, 1, 0);
            x.setPackets(m);
            x.setState(stateFor(most, 0));
            x.run(1);
            due("the least choice among " + m, x.lastSent(0), 1);
            x.setState(stateFor(most, most - 1));
            x.run(1);
            due("the greatest choice among " + m, x.lastSent(0), most);
        }
        CodedRelays one = line();
        roundWith(one, 5);
        int state = stateOf(one);
        one.run(1);
        due("the choice among one", one.lastSent(1), 5);
        due("a number is taken for it", stateOf(one), after(state, 2));
    }

    @Says("bit i of it is set if the i-th of the sums, counted from 0, is chosen.")
    static void firstAndLastBit() {
        CodedRelays x = line();
        for (int vector : new int[] {8, 4, 2, 1}) {
            roundWith(x, vector);
        }
        x.setState(stateFor(15, 0, 15, 0));
        x.run(1);
        due("bit 0 is the first sum", x.lastSent(1), 8);
        x.setState(stateFor(15, 0, 15, 7));
        x.run(1);
        due("bit 3 is the fourth sum", x.lastSent(1), 1);
    }

    // ---- rounds

    @Says("In a round, for each node in ascending order")
    static void nodesInOrder() {
        // Links are added against the order of their nodes; numbers are taken in that of the nodes.
        CodedRelays x = network(4, 2, 3, 0, 1, 3, 0, 0, 2, 0, 0, 1, 0);
        x.setState(stateFor(15, 1, 15, 0));
        x.run(1);
        x.setState(stateFor(15, 3, 15, 7));
        x.run(1);
        due("node 1 has 1 and 8", x.vector(1, 1), 8);
        due("node 2 has 2 and 4", x.vector(2, 1), 4);
        x.setState(stateFor(15, 0, 15, 0, 3, 1, 3, 2));
        x.run(1);
        due("node 1 takes the third number", x.lastSent(1), 8);
        due("node 2 takes the fourth number", x.lastSent(0), 6);
    }

    @Says("if its rank is above 0")
    static void nothingToSend() {
        CodedRelays x = line();
        int state = stateOf(x);
        x.run(1);
        due("lastSent(1) of a node without sums", x.lastSent(1), NONE);
        due("no number is taken for it", stateOf(x), after(state, 1));
        x.run(1);
        due("lastSent(1) with one sum", x.lastSent(1) > 0 ? 1 : 0, 1);
        due("two more numbers", stateOf(x), after(state, 3));
    }

    @Says("for each open link that leads from it, in ascending order")
    static void linksInOrder() {
        CodedRelays x = network(4, 0, 3, 0, 0, 1, 0, 0, 2, 0);
        x.setState(stateFor(15, 4, 15, 9, 15, 14));
        x.run(1);
        due("lastSent(0)", x.lastSent(0), 5);
        due("lastSent(1)", x.lastSent(1), 10);
        due("lastSent(2)", x.lastSent(2), 15);
    }

    @Says("of those that it had at the beginning of the round.")
    static void atTheBeginning() {
        CodedRelays x = network(5, 0, 1, 0, 1, 2, 0, 2, 3, 0, 3, 4, 0);
        for (int round = 1; round <= 4; round++) {
            x.run(1);
            for (int node = 1; node < 5; node++) {
                due("node " + node + " has something after round " + round, x.rank(node) > 0 ? 1 : 0, node <= round ? 1 : 0);
            }
        }
    }

    @Says("After that, what was sent and not lost is received, in ascending order of the links")
    static void receivedInOrder() {
        // Node 2 gets the same vector over links 0 and 1 in one round: that of link 0 is the new one.
        CodedRelays x = network(3, 0, 2, 0, 0, 2, 0);
        x.setState(stateFor(15, 5, 15, 5));
        due("run(1)", x.run(1), 1);
        due("link 0 NEW", x.fates(0, 1), 1);
        due("link 1 REDUNDANT", x.fates(1, 2), 1);
        CodedRelays y = network(3, 1, 2, 0, 0, 2, 0, 0, 1, 0);
        y.setState(stateFor(15, 5, 15, 9));
        y.run(1);
        y.setState(stateFor(15, 9, 15, 9, 1, 0));
        due("run(1)", y.run(1), 1);
        due("link 0 NEW, though node 0 sent before", y.fates(0, 1), 1);
        due("link 1 REDUNDANT", y.fates(1, 2), 1);
        CodedRelays z = network(3, 0, 2, 1, 0, 2, 0);
        z.setState(stateFor(15, 5, 15, 5));
        z.run(1);
        due("link 0 LOST", z.fates(0, 0), 1);
        due("so link 1 NEW", z.fates(1, 1), 1);
    }

    @Says("if the vector is not the sum of vectors of some of the sums that the receiver has, the sum is accepted, and counts as NEW.")
    static void newOnes() {
        CodedRelays x = network(3, 0, 1, 0);
        due("the first one", roundWith(x, 7), 1);
        due("one below it", roundWith(x, 3), 1);
        due("the sum of both", roundWith(x, 4), 0);
        due("one with another packet", roundWith(x, 8), 1);
        due("the sum of all three", roundWith(x, 12), 0);
        due("the last one", roundWith(x, 14), 1);
        due("NEW", x.fates(0, 1), 4);
        for (int vector = 1; vector < 16; vector++) {
            due(vector + " when it has all", roundWith(x, vector), 0);
        }
    }

    @Says("Otherwise it is the sum of some of them, in just one way")
    static void justOneWay() {
        CodedRelays x = network(3, 0, 1, 0);
        x.run(50);
        int seen = 0;
        for (int vector = 0; vector < 16; vector++) {
            int set = x.combination(1, vector);
            int sum = 0;
            for (int i = 0; i < 4; i++) {
                sum ^= (set >> i & 1) * x.vector(1, i);
            }
            due("the sum of combination(1, " + vector + ")", sum, vector);
            seen |= 1 << set;
        }
        due("each set is that of one vector", seen, 65535);
    }

    @Says("if its payload is the sum of their payloads, it counts as REDUNDANT, and otherwise as CONFLICTING.")
    static void redundantOrConflicting() {
        CodedRelays x = network(3, 0, 1, 0, 1, 2, 0, 0, 2, 0);
        x.setBehavior(1, CodedRelays.ALTERING);
        x.setState(stateFor(15, 0, 15, 1));
        x.run(1);
        due("node 2 has 2", x.vector(2, 0), 2);
        x.setState(stateFor(15, 0, 15, 1, 1, 0));
        x.run(1);
        due("the altered 1 is new to node 2", x.fates(1, 1), 1);
        x.setState(stateFor(15, 0, 15, 0, 1, 0));
        x.run(1);
        due("the altered 1 again fits", x.fates(1, 2), 1);
        due("the right 1 does not", x.fates(2, 3), 1);
        due("what does not fit is not kept", x.rank(2), 2);
        due("solve(2, 0) stays", x.solve(2, 0), 16);
    }

    @Says("A generation begins by each call of setPackets(), setPayload(), setNodes(), addLink(), removeLink(), setBehavior() "
        + "and read() that returns no error")
    static void generations() {
        begins("setPackets(4), the same number", x -> x.setPackets(4));
        begins("setPackets(8)", x -> x.setPackets(8));
        begins("setPayload(0, 17), the same payload", x -> x.setPayload(0, 17));
        begins("setNodes(4), the same number", x -> x.setNodes(4));
        begins("setNodes(3)", x -> x.setNodes(3));
        begins("addLink(0, 1, 0)", x -> x.addLink(0, 1, 0));
        begins("removeLink()", CodedRelays::removeLink);
        begins("setBehavior(2, SILENT), the same behavior", x -> x.setBehavior(2, CodedRelays.SILENT));
        begins("read()", CodedRelays::read);
        begins("read() of an empty text", x -> {
            x.clearText();
            x.read();
        });
        goesOn("setState(0)", x -> x.setState(0));
        goesOn("setLimit(1)", x -> x.setLimit(1));
        goesOn("runUntil(0)", x -> x.runUntil(0));
        goesOn("append(48)", x -> x.append(48));
        goesOn("clearText()", CodedRelays::clearText);
        goesOn("faultPosition()", CodedRelays::faultPosition);
        goesOn("keep(0)", x -> x.keep(0));
        goesOn("setPackets(9)", x -> x.setPackets(9));
        goesOn("setBehavior(0, 0)", x -> x.setBehavior(0, 0));
    }

    private static void begins(String what, Consumer<CodedRelays> call) {
        CodedRelays x = lively();
        call.accept(x);
        due("rounds() after " + what, x.rounds(), 0);
        due("rank(2) after " + what, x.rank(2), 0);
        due("isCutOff(1) after " + what, x.isCutOff(1), 0);
    }

    private static void goesOn(String what, Consumer<CodedRelays> call) {
        CodedRelays x = lively();
        call.accept(x);
        due("rounds() after " + what, x.rounds(), 15);
        due("rank(2) after " + what, x.rank(2), 4);
        due("isCutOff(1) after " + what, x.isCutOff(1), 1);
    }

    @Says("nodes other than 0 have no sums, all counters are 0, nothing has been sent, no node is cut off, there are no marks.")
    static void allAnew() {
        CodedRelays x = lively();
        due("marks(1) before", x.marks(1), 1);
        due("marks(2) before", x.marks(2), 1);
        x.setPayload(0, 17);
        due("rounds()", x.rounds(), 0);
        for (int node = 0; node < 4; node++) {
            due("rank(" + node + ")", x.rank(node), node == 0 ? 4 : 0);
            due("marks(" + node + ")", x.marks(node), 0);
            due("isCutOff(" + node + ")", x.isCutOff(node), 0);
        }
        for (int link = 0; link < 4; link++) {
            for (int fate = 0; fate < 4; fate++) {
                due("fates(" + link + ", " + fate + ")", x.fates(link, fate), 0);
            }
            due("lastSent(" + link + ")", x.lastSent(link), NONE);
            due("endSum(" + link + ", false)", x.endSum(link, false), 0);
            due("endSum(" + link + ", true)", x.endSum(link, true), 0);
        }
        due("sentRank(1)", x.sentRank(1), 0);
        due("sentRank(2)", x.sentRank(2), 0);
        due("differing()", x.differing(), 0);
        x.run(1);
        due("the first over the link with a loss of 2 is not lost", x.fates(0, 0), 0);
        x.run(1);
        due("the second one is", x.fates(0, 0), 1);
    }

    @Says("The random state and the limit stay.")
    static void stateAndLimitStay() {
        staysWith(x -> x.setPackets(2));
        staysWith(x -> x.setPayload(0, 0));
        staysWith(x -> x.setNodes(10));
        staysWith(x -> x.addLink(0, 1, 0));
        staysWith(CodedRelays::removeLink);
        staysWith(x -> x.setBehavior(1, 0));
        staysWith(CodedRelays::read);
    }

    private static void staysWith(Consumer<CodedRelays> call) {
        for (int state : new int[] {0, 2147483647}) {
            CodedRelays x = lively();
            x.setState(state);
            x.setLimit(9);
            call.accept(x);
            due("the limit", x.setLimit(1), 9);
            due("the state", x.setState(5), state);
        }
    }

    // ---- ends of links

    @Says("The sender of a link keeps the sum of the vectors that it has sent over it in this generation, "
        + "the receiver that of those that it has received over it.")
    static void ends() {
        CodedRelays x = network(3, 0, 1, 3);
        int[] vectors = {9, 9, 6, 1, 8, 15};
        int[] sent = {9, 0, 6, 7, 15, 0};
        int[] received = {9, 0, 0, 1, 9, 9};
        for (int i = 0; i < 6; i++) {
            roundWith(x, vectors[i]);
            due("endSum(0, false) after " + (i + 1), x.endSum(0, false), sent[i]);
            due("endSum(0, true) after " + (i + 1), x.endSum(0, true), received[i]);
        }
        x.setPayload(0, 17);
        due("endSum(0, true) in the next generation", x.endSum(0, true), 0);
    }

    // ---- checks

    @Says("A projection is a number from 1 to 2 to the power of k, minus 1")
    static void projections() {
        CodedRelays x = network(3, 1, 2, 0);
        for (int k = 2; k <= 8; k++) {
            x.setPackets(k);
            due("suspect(1, 0)", x.suspect(1, 0), BAD);
            due("suspect(1, 1)", x.suspect(1, 1), 0);
            due("suspect(1, 2^k - 1)", x.suspect(1, (1 << k) - 1), 0);
            due("suspect(1, 2^k)", x.suspect(1, 1 << k), BAD);
            due("check(1, 0)", x.check(1, 0), BAD);
            due("check(1, 2^k - 1)", x.check(1, (1 << k) - 1), 0);
            due("check(1, 2^k)", x.check(1, 1 << k), BAD);
        }
    }

    @Says("a vector is odd for it if the number of bits that are set in both is odd.")
    static void noneToEightBits() {
        CodedRelays x = line();
        x.setPackets(8);
        x.setBehavior(1, CodedRelays.SILENT);
        x.setState(stateFor(255, 254));
        x.run(1);
        for (int bits = 1; bits <= 8; bits++) {
            due("suspect(1, p) with " + bits + " bits in both", x.suspect(1, (1 << bits) - 1), bits % 2);
            due("suspect(1, p) with " + bits + " upper bits in both", x.suspect(1, 256 - (1 << 8 - bits)), bits % 2);
        }
        x.setState(stateFor(255, 15));
        x.setPayload(0, 17);
        x.run(1);
        due("vector(1, 0)", x.vector(1, 0), 16);
        due("no bit in both", x.suspect(1, 239), 0);
        due("one bit in both", x.suspect(1, 16), 1);
    }

    @Says("A relay is suspect for a projection if it has a sum whose vector is odd for it, and none of the vectors "
        + "that it has sent in this generation")
    static void suspectOnes() {
        CodedRelays x = line();
        x.setBehavior(1, CodedRelays.LAZY);
        due("suspect(1, 1) without sums", x.suspect(1, 1), 0);
        roundWith(x, 1);
        due("suspect(1, 1) with 1 unsent", x.suspect(1, 1), 1);
        roundWith(x, 2);
        due("suspect(1, 1) with 1 sent", x.suspect(1, 1), 0);
        due("suspect(1, 2) with 2 unsent", x.suspect(1, 2), 1);
        due("suspect(1, 3): 1 was odd for it", x.suspect(1, 3), 0);
        due("suspect(1, 4): no sum is odd for it", x.suspect(1, 4), 0);
        x.setPayload(0, 17);
        roundWith(x, 1);
        due("suspect(1, 1): 1 was sent in another generation", x.suspect(1, 1), 1);
    }

    @Says("(whether they were lost or not) is odd for it.")
    static void lostOnesWereSent() {
        CodedRelays x = network(3, 0, 1, 0, 1, 2, 1);
        roundWith(x, 1);
        due("suspect(1, 1)", x.suspect(1, 1), 1);
        roundWith(x, 1);
        due("all is lost", x.fates(1, 0), 1);
        due("suspect(1, 1)", x.suspect(1, 1), 0);
        due("suspicions(1)", x.suspicions(1), 0);
    }

    @Says("A check of a relay for a projection for which it is suspect gives it a mark, and if it then has at least as many "
        + "marks as the limit")
    static void asManyAsTheLimit() {
        for (int limit = 1; limit <= 9; limit++) {
            CodedRelays x = lazyRelay();
            x.setLimit(limit);
            for (int i = 1; i <= limit; i++) {
                due("check(1, 2)", x.check(1, 2), i);
                due("isCutOff(1) with " + i + " marks of " + limit, x.isCutOff(1), i == limit ? 1 : 0);
            }
        }
        CodedRelays more = lazyRelay();
        more.check(1, 2);
        more.check(1, 2);
        more.setLimit(1);
        due("check(1, 2) that gives more than the limit", more.check(1, 2), 3);
        due("isCutOff(1)", more.isCutOff(1), 1);
        CodedRelays random = lazyRelay();
        random.setLimit(1);
        random.setState(stateFor(1, 0, 15, 1));
        random.checkRandomly(1);
        due("isCutOff(1) by a random check", random.isCutOff(1), 1);
    }

    @Says("the limit, which is from 1 to 9, at first 3")
    static void firstLimit() {
        CodedRelays x = lazyRelay();
        x.check(1, 2);
        x.check(1, 2);
        due("isCutOff(1) with two marks", x.isCutOff(1), 0);
        x.check(1, 2);
        due("isCutOff(1) with three marks", x.isCutOff(1), 1);
        due("setLimit(0)", x.setLimit(0), BAD);
        due("setLimit(10)", x.setLimit(10), BAD);
        due("setLimit(9)", x.setLimit(9), 3);
        due("setLimit(1)", x.setLimit(1), 9);
    }

    @Says("it is cut off (for the rest of the generation).")
    static void restOfTheGeneration() {
        CodedRelays x = lazyRelay();
        x.setLimit(1);
        x.check(1, 2);
        x.setLimit(9);
        x.run(50);
        x.checkRandomly(50);
        due("isCutOff(1) with a higher limit", x.isCutOff(1), 1);
        due("marks(1)", x.marks(1), 1);
        due("check(1, 1)", x.check(1, 1), NOT);
        x.removeLink();
        due("isCutOff(1) in the next generation", x.isCutOff(1), 0);
    }

    @Says("A check for which it is not suspect changes nothing.")
    static void checkOfAnInnocent() {
        CodedRelays y = lazyRelay();
        y.check(1, 2);
        y.setLimit(1);
        due("check(1, 1)", y.check(1, 1), 1);
        due("isCutOff(1), though it has as many marks as the limit", y.isCutOff(1), 0);
        CodedRelays same = lazyRelay();
        same.check(1, 2);
        same.setLimit(1);
        sameStory("check(1, 1) changes nothing", y, same);
    }

    @Says("A relay whose sent vectors have the same rank as its own is never suspect.")
    static void sameRank() {
        CodedRelays x = line();
        due("suspicions(1) with ranks of 0", x.suspicions(1), 0);
        for (int i = 0; i < 60; i++) {
            x.run(1);
            due("never suspect after " + (i + 1), x.rank(1) == x.sentRank(1) && x.suspicions(1) != 0 ? 1 : 0, 0);
            due("suspect if the ranks differ", x.rank(1) > x.sentRank(1) && x.suspicions(1) == 0 ? 1 : 0, 0);
        }
        due("the ranks are the same then", x.sentRank(1), 4);
    }

    // ---- solving

    @Says("A node knows packet i if the vector with bit i alone is the sum of vectors of sums that it has")
    static void firstAndLastPacket() {
        CodedRelays x = network(3, 0, 1, 0);
        x.setPackets(8);
        due("knows(1) of none", x.knows(1), 0);
        x.setState(stateFor(255, 127));
        x.run(1);
        due("knows(1) of the last", x.knows(1), 128);
        x.setState(stateFor(255, 128));
        x.run(1);
        due("knows(1) of the last and the first, by 129", x.knows(1), 129);
        due("solve(1, 0)", x.solve(1, 0), 17);
        due("solve(1, 6)", x.solve(1, 6), NONE);
    }

    @Says("the payload of the packet is, for this node, the sum of their payloads.")
    static void payloadForThisNode() {
        CodedRelays x = line();
        x.setBehavior(1, CodedRelays.ALTERING);
        roundWith(x, 1);
        x.setState(stateFor(15, 0, 1, 0));
        x.run(1);
        due("solve(0, 0)", x.solve(0, 0), 17);
        due("solve(1, 0)", x.solve(1, 0), 17);
        due("solve(2, 0)", x.solve(2, 0), 16);
    }

    @Says("The flow of a node is the greatest number of ways from node 0 to it over open links of which no two have a link in common.")
    static void ways() {
        due("flow(4) without links", new CodedRelays().flow(4), 0);
        due("flow(2) by one link of two", network(3, 0, 1, 0).flow(2), 0);
        due("flow(2) by two links behind each other", line().flow(2), 1);
        due("flow(2) by one that two ways would need", network(3, 0, 1, 0, 0, 1, 0, 1, 2, 0).flow(2), 1);
        due("flow(2) by two links beside each other", network(3, 0, 2, 0, 0, 2, 0).flow(2), 2);
        due("ways may have a node in common", network(3, 0, 1, 0, 0, 1, 0, 1, 2, 0, 1, 2, 0).flow(2), 2);
        due("a first way must be turned", network(4, 0, 1, 0, 1, 2, 0, 2, 3, 0, 0, 2, 0, 1, 3, 0).flow(3), 2);
        CodedRelays longest = network(10);
        for (int i = 0; i < 9; i++) {
            longest.addLink(i, i + 1, 1);
        }
        due("flow(9) by nine links, all with losses", longest.flow(9), 1);
        for (int i = 8; i >= 0; i--) {
            due("flow(9) with one link doubled", longest.flow(9), 1);
            longest.addLink(i, i + 1, 0);
        }
        due("flow(9) with all links doubled", longest.flow(9), 2);
    }

    // ---- texts

    @Says("The text buffer holds at most 100 characters.")
    static void hundredCharacters() {
        CodedRelays x = new CodedRelays();
        for (int i = 1; i <= 100; i++) {
            due("append(';')", x.append(';'), i);
        }
        due("the 101st", x.append(';'), FULL);
        due("clearText()", x.clearText(), 100);
    }

    @Says("Its text consists of entries, perhaps none, each followed by a semicolon")
    static void entries() {
        CodedRelays x = new CodedRelays();
        due("none", faultOf(x, ""), NONE);
        due("one", faultOf(x, "0>1;"), NONE);
        due("two", faultOf(x, "0>1;b1=1;"), NONE);
        due("a semicolon alone", faultOf(x, ";"), 0);
        due("two semicolons", faultOf(x, "0>1;;"), 4);
        due("no semicolon", faultOf(x, "0>1"), 3);
        due("no semicolon between two", faultOf(x, "0>1b1=1;"), 3);
        due("no semicolon at the end", faultOf(x, "0>1;b1=1"), 8);
    }

    @Says("with a slash and a digit behind it for its loss (0 without it)")
    static void lossesInTexts() {
        for (int loss = 0; loss <= 9; loss++) {
            CodedRelays x = new CodedRelays();
            write(x, "0>1/" + loss + ";0>1;");
            due("read()", x.read(), 2);
            due("link(0, 2)", x.link(0, 2), loss);
            due("link(1, 2) without a slash", x.link(1, 2), 0);
        }
        CodedRelays y = new CodedRelays();
        due("a slash without a digit", faultOf(y, "0>1/;"), 4);
        due("a sign below the digits", faultOf(y, "0>1//;"), 4);
        due("a sign above the digits", faultOf(y, "0>1/:;"), 4);
        due("two digits", faultOf(y, "0>1/10;"), 5);
    }

    @Says("b, a digit, = and a digit from 0 to 4 set the behavior of a node.")
    static void behaviorsInTexts() {
        for (int behavior = 0; behavior <= 4; behavior++) {
            CodedRelays x = new CodedRelays();
            write(x, "b4=" + behavior + ";");
            due("read()", x.read(), 1);
            due("the behavior", x.setBehavior(4, 0), behavior);
        }
        CodedRelays y = new CodedRelays();
        due("a digit above 4", faultOf(y, "b4=5;"), 3);
        due("a sign below the digits", faultOf(y, "b4=/;"), 3);
        due("two digits", faultOf(y, "b4=10;"), 4);
        due("a loss", faultOf(y, "b4=1/1;"), 4);
    }

    @Says("The fault position is the index, counted from 0, of the first character that cannot follow the characters before it in such a text")
    static void firstWrongCharacter() {
        String[] entries = {"0>1/2;", "b1=2;"};
        for (String entry : entries) {
            for (int i = 0; i < entry.length(); i++) {
                String spoilt = "3>4;" + entry.substring(0, i) + "~" + entry.substring(i + 1) + "~";
                due("faultPosition() of " + spoilt, faultOf(new CodedRelays(), spoilt), 4 + i);
                String spaced = entry.substring(0, i) + " " + entry.substring(i);
                due("faultPosition() of " + spaced, faultOf(new CodedRelays(), spaced), i);
            }
        }
    }

    @Says("or the length of the text if it ends too early")
    static void tooEarly() {
        String[] entries = {"0>1/2;", "b1=2;"};
        for (String entry : entries) {
            for (int i = 1; i < entry.length(); i++) {
                due("faultPosition() of " + entry.substring(0, i), faultOf(new CodedRelays(), entry.substring(0, i)), i);
                String second = "3>4;" + entry.substring(0, i);
                due("faultPosition() of " + second, faultOf(new CodedRelays(), second), 4 + i);
            }
        }
    }

    @Says("a digit that names no node is a fault")
    static void noSuchNode() {
        for (int n = 3; n <= 10; n++) {
            CodedRelays x = network(n);
            int top = n - 1;
            due("the highest node as the second one of " + n, faultOf(x, "0>" + top + ";"), NONE);
            due("the highest node behind b of " + n, faultOf(x, "b" + top + "=0;"), NONE);
            if (n < 10) {
                due("a first node above " + top, faultOf(x, n + ">" + n + ";"), 0);
                due("a second node above " + top, faultOf(x, "0>" + n + ";"), 2);
                due("a node above " + top + " behind b", faultOf(x, "b" + n + "=0;"), 1);
            }
        }
        CodedRelays y = network(3);
        due("9 as the first of three", faultOf(y, "9>9;"), 0);
        due("9 as the second of three", faultOf(y, "0>9;"), 2);
        due("9 behind b of three", faultOf(y, "b9=0;"), 1);
    }

    @Says("the digit of a second node that is not higher than the first one")
    static void secondNode() {
        CodedRelays x = network(10);
        for (int first = 0; first < 10; first++) {
            for (int second = 0; second < 10; second++) {
                due("faultPosition() of " + first + ">" + second + ";", faultOf(x, first + ">" + second + ";"),
                    second > first ? NONE : 2);
            }
            x = network(10);
        }
    }

    @Says("b followed by 0")
    static void behaviorOfTheSource() {
        CodedRelays x = new CodedRelays();
        due("b0", faultOf(x, "b0"), 1);
        due("b0=0;", faultOf(x, "b0=0;"), 1);
        due("read()", x.read(), NOT);
        due("b1=0;", faultOf(x, "b1=0;"), NONE);
    }

    @Says("the first digit of a link for which there would be no room.")
    static void noRoomInTexts() {
        CodedRelays x = network(3);
        for (int i = 0; i < 19; i++) {
            x.addLink(0, 1, 0);
        }
        due("a 20th link", faultOf(x, "0>1;"), NONE);
        due("a 20th and a 21st", faultOf(x, "0>1;0>2;"), 4);
        due("behaviors between them", faultOf(x, "b1=1;0>1;b2=2;0>2;"), 14);
        due("the 20th has another fault", faultOf(x, "0>0;0>1;"), 2);
        x.addLink(0, 1, 0);
        due("a 21st link", faultOf(x, "0>1;"), 0);
        due("its first digit alone", faultOf(x, "0"), 0);
        due("behaviors need no room", faultOf(x, "b1=1;"), NONE);
        x.removeLink();
        due("room again", faultOf(x, "0>1;"), NONE);
        CodedRelays y = network(3);
        for (int i = 0; i < 20; i++) {
            write(y, "0>1;");
        }
        due("20 links in a text", y.faultPosition(), NONE);
        write(y, "0");
        due("a 21st in the same text", y.faultPosition(), 80);
    }

    @Says("(The highest node as the first one of a link is no fault by itself")
    static void highestFirst() {
        for (int n = 3; n <= 10; n++) {
            due("the highest first node of " + n, faultOf(network(n), (n - 1) + ""), 1);
            due("the highest first node of " + n + ", and >", faultOf(network(n), (n - 1) + ">"), 2);
        }
    }

    @Says("its second node is one then.)")
    static void nothingIsHigher() {
        for (int n = 3; n <= 10; n++) {
            CodedRelays x = network(n);
            for (int second = 0; second < 10; second++) {
                due("faultPosition() with " + n + " nodes", faultOf(x, (n - 1) + ">" + second + ";"), 2);
            }
        }
    }
}
