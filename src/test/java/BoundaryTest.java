import java.math.BigInteger;

/**
 * The boundaries that the promises 1 to 43 name: a test for each range of an argument and for each
 * sentence on what is returned or changed.
 */
public final class BoundaryTest extends Sentences {
    private static final int MAX = Integer.MAX_VALUE;
    private static final int[] NO_NODES_OF_FOUR = {-1, 4, 9, 10, MAX};

    public static void main(String[] args) throws Exception {
        runAll(BoundaryTest.class, 1, 43,
            // Their ranges have tests, which ask for BAD_VALUE.
            "BAD_VALUE.", "BAD_VALUE;",
            // These say what a call is for; what it does is in the other sentences of its promise.
            "Returns this number;", "Checks a relay for a projection.", "Makes random checks.",
            "Tells which link a flow depends on.", "Computes a checksum.", "Returns the checksum.");
    }

    // ---- 1

    @Says(promise = 1, value = "Creates a simulator with five nodes, without links, with everything as at first")
    static void newObject() {
        CodedRelays x = new CodedRelays();
        due("nodes()", x.nodes(), 5);
        due("links()", x.links(), 0);
        due("rounds()", x.rounds(), 0);
        due("knows(0)", x.knows(0), 15);
        due("payload(0, 0)", x.payload(0, 0), 17);
        due("payload(0, 3)", x.payload(0, 3), 68);
        for (int i = 1; i < 5; i++) {
            due("rank(" + i + ")", x.rank(i), 0);
            due("flow(" + i + ")", x.flow(i), 0);
            due("isCutOff(" + i + ")", x.isCutOff(i), 0);
        }
        due("the state", x.setState(1), 1);
        due("the limit", x.setLimit(3), 3);
        for (int i = 1; i < 5; i++) {
            due("the behavior of " + i, x.setBehavior(i, 0), 0);
        }
        due("the packets", x.setPackets(4), 4);
    }

    @Says(promise = 1, value = "an empty text")
    static void newText() {
        due("clearText()", new CodedRelays().clearText(), 0);
        due("faultPosition()", new CodedRelays().faultPosition(), NONE);
        due("append(48)", new CodedRelays().append(48), 1);
    }

    @Says(promise = 1, value = "empty slots")
    static void newSlots() {
        refused(CodedRelays::new, "restore(0)", x -> x.restore(0), NOT);
        refused(CodedRelays::new, "restore(1)", x -> x.restore(1), NOT);
    }

    // ---- 2 setPackets

    @Says(promise = 2, value = "`packets`: 2 to 8")
    static void packetsRange() {
        for (int k = 2; k <= 8; k++) {
            CodedRelays x = lively();
            due("setPackets(" + k + ")", x.setPackets(k), 4);
            due("rank(0)", x.rank(0), k);
            due("knows(0)", x.knows(0), (1 << k) - 1);
        }
        refusedValues(Sentences::lively, "setPackets(v)", (x, v) -> x.setPackets(v), 1, 9, 0, -1, MAX);
    }

    @Says(promise = 2, value = "Sets the number of packets.")
    static void packetsThatAreThere() {
        CodedRelays x = new CodedRelays();
        x.setPackets(2);
        due("setPayload(1, 0) of two", x.setPayload(1, 0), 34);
        due("setPayload(2, 0) of two", x.setPayload(2, 0), BAD);
        x.setPackets(8);
        due("setPayload(7, 0) of eight", x.setPayload(7, 0), 136);
        due("setPayload(8, 0) of eight", x.setPayload(8, 0), BAD);
    }

    @Says(promise = 2, value = "All payloads become as at first.")
    static void payloadsAsAtFirst() {
        CodedRelays x = new CodedRelays();
        x.setPackets(8);
        x.setPayload(0, 255);
        x.setPayload(7, 0);
        x.setPackets(8);
        due("payload(0, 0) by the same number again", x.payload(0, 0), 17);
        due("payload(0, 7) by the same number again", x.payload(0, 7), 136);
        x.setPayload(7, 0);
        x.setPackets(2);
        x.setPackets(8);
        due("payload(0, 7), though it was away", x.payload(0, 7), 136);
        x.setPayload(1, 0);
        x.setPackets(2);
        due("payload(0, 1) by fewer", x.payload(0, 1), 34);
    }

    @Says(promise = 2, value = "Returns the previous number")
    static void previousPackets() {
        CodedRelays x = new CodedRelays();
        due("setPackets(8)", x.setPackets(8), 4);
        due("setPackets(2)", x.setPackets(2), 8);
        due("setPackets(9)", x.setPackets(9), BAD);
        due("setPackets(2) after a refused one", x.setPackets(2), 2);
    }

    // ---- 3 setPayload

    @Says(promise = 3, value = "`packet`: 0 to k - 1")
    static void packetOfPayload() {
        for (int k = 2; k <= 8; k++) {
            CodedRelays x = new CodedRelays();
            x.setPackets(k);
            due("setPayload(0, 1)", x.setPayload(0, 1), 17);
            due("setPayload(k - 1, 2)", x.setPayload(k - 1, 2), 17 * k);
            due("setPayload(k, 3) with k = " + k, x.setPayload(k, 3), BAD);
            due("payload(0, k - 1)", x.payload(0, k - 1), 2);
        }
        refusedValues(Sentences::lively, "setPayload(v, 9)", (x, v) -> x.setPayload(v, 9), -1, 4, 7, 8, MAX);
    }

    @Says(promise = 3, value = "`payload`: 0 to 255")
    static void payloadRange() {
        CodedRelays x = new CodedRelays();
        for (int packet = 0; packet < 4; packet++) {
            due("setPayload(0)", x.setPayload(packet, 0), 17 * (packet + 1));
            due("payload() of 0", x.payload(0, packet), 0);
            due("setPayload(255)", x.setPayload(packet, 255), 0);
            due("payload() of 255", x.payload(0, packet), 255);
        }
        refusedValues(Sentences::lively, "setPayload(3, v)", (y, v) -> y.setPayload(3, v), -1, 256, MAX);
    }

    @Says(promise = 3, value = "Returns the previous payload")
    static void previousPayload() {
        CodedRelays x = new CodedRelays();
        due("setPayload(3, 0)", x.setPayload(3, 0), 68);
        due("setPayload(3, 255)", x.setPayload(3, 255), 0);
        due("setPayload(3, 256)", x.setPayload(3, 256), BAD);
        due("setPayload(3, 255) after a refused one", x.setPayload(3, 255), 255);
    }

    // ---- 4 setNodes

    @Says(promise = 4, value = "`nodes`: 3 to 10")
    static void nodesRange() {
        for (int n = 3; n <= 10; n++) {
            CodedRelays x = lively();
            due("setNodes(" + n + ")", x.setNodes(n), 4);
            due("nodes()", x.nodes(), n);
        }
        refusedValues(Sentences::lively, "setNodes(v)", (x, v) -> x.setNodes(v), 2, 11, 1, 0, -1, MAX);
    }

    @Says(promise = 4, value = "Sets the number of nodes.")
    static void nodesThatAreThere() {
        CodedRelays x = new CodedRelays();
        x.setNodes(3);
        due("rank(2) of three", x.rank(2), 0);
        due("rank(3) of three", x.rank(3), BAD);
        x.setNodes(10);
        due("rank(9) of ten", x.rank(9), 0);
        due("rank(10) of ten", x.rank(10), BAD);
    }

    @Says(promise = 4, value = "All links are removed, and all nodes are HONEST.")
    static void nodesAnew() {
        for (int n = 3; n <= 10; n++) {
            CodedRelays x = full();
            x.setBehavior(2, CodedRelays.ALTERING);
            x.setBehavior(3, CodedRelays.HOLDING);
            x.setNodes(n);
            due("links() of " + n + " nodes", x.links(), 0);
            due("flow(2)", x.flow(2), 0);
            x.setNodes(10);
            for (int node = 1; node < 10; node++) {
                due("the behavior of " + node, x.setBehavior(node, 0), 0);
            }
        }
    }

    @Says(promise = 4, value = "Returns the previous number")
    static void previousNodes() {
        CodedRelays x = new CodedRelays();
        due("setNodes(10)", x.setNodes(10), 5);
        due("setNodes(3)", x.setNodes(3), 10);
        due("setNodes(2)", x.setNodes(2), BAD);
        due("setNodes(3) after a refused one", x.setNodes(3), 3);
    }

    // ---- 5 addLink

    @Says(promise = 5, value = "`from`: a node")
    static void linkFrom() {
        due("addLink(0, 4, 0)", new CodedRelays().addLink(0, 4, 0), 0);
        due("addLink(3, 4, 0)", new CodedRelays().addLink(3, 4, 0), 0);
        due("addLink(8, 9, 0) of ten", network(10).addLink(8, 9, 0), 0);
        due("addLink(9, 10, 0) of ten", network(10).addLink(9, 10, 0), BAD);
        refusedValues(Sentences::lively, "addLink(v, 3, 0)", (x, v) -> x.addLink(v, 3, 0), NO_NODES_OF_FOUR);
    }

    @Says(promise = 5, value = "`to`: a node with a higher number")
    static void linkTo() {
        due("addLink(0, 1, 0)", new CodedRelays().addLink(0, 1, 0), 0);
        due("addLink(1, 2, 0)", new CodedRelays().addLink(1, 2, 0), 0);
        due("addLink(2, 4, 0)", new CodedRelays().addLink(2, 4, 0), 0);
        refusedValues(Sentences::lively, "addLink(v, v, 0)", (x, v) -> x.addLink(v, v, 0), 0, 1, 2, 3);
        refusedValues(Sentences::lively, "addLink(2, v, 0)", (x, v) -> x.addLink(2, v, 0), 0, 1, 2, 4, -1, 9, 10, MAX);
        refused(Sentences::lively, "addLink(3, 4, 0) of four", x -> x.addLink(3, 4, 0), BAD);
        refused(Sentences::lively, "addLink(0, -1, 0)", x -> x.addLink(0, -1, 0), BAD);
    }

    @Says(promise = 5, value = "`loss`: 0 to 9")
    static void linkLoss() {
        for (int loss = 0; loss <= 9; loss++) {
            CodedRelays x = new CodedRelays();
            due("addLink(0, 1, " + loss + ")", x.addLink(0, 1, loss), 0);
            due("link(0, 2)", x.link(0, 2), loss);
        }
        refusedValues(Sentences::lively, "addLink(0, 1, v)", (x, v) -> x.addLink(0, 1, v), -1, 10, MAX);
    }

    @Says(promise = 5, value = "Returns the number of the link")
    static void numberOfLink() {
        CodedRelays x = new CodedRelays();
        for (int i = 0; i < 20; i++) {
            due("addLink()", x.addLink(0, 1, 0), i);
        }
        x.removeLink();
        due("addLink() after removeLink()", x.addLink(0, 1, 0), 19);
        x.setNodes(5);
        due("addLink() after setNodes()", x.addLink(0, 1, 0), 0);
    }

    @Says(promise = 5, value = "FULL if there are 20 links.")
    static void fullOfLinks() {
        refused(Sentences::full, "addLink(0, 3, 9)", x -> x.addLink(0, 3, 9), FULL);
        refused(Sentences::full, "addLink(0, 3, 10), BAD_VALUE first", x -> x.addLink(0, 3, 10), BAD);
        refused(Sentences::full, "addLink(3, 3, 0), BAD_VALUE first", x -> x.addLink(3, 3, 0), BAD);
        refused(Sentences::full, "addLink(-1, 3, 0), BAD_VALUE first", x -> x.addLink(-1, 3, 0), BAD);
        CodedRelays x = full();
        x.removeLink();
        due("with 19 links", x.addLink(0, 3, 9), 19);
    }

    // ---- 6 removeLink

    @Says(promise = 6, value = "Removes the link with the highest number.")
    static void highestLink() {
        CodedRelays x = network(5, 3, 4, 9, 0, 1, 5);
        x.removeLink();
        due("link(0, 0)", x.link(0, 0), 3);
        due("link(0, 2)", x.link(0, 2), 9);
        due("link(1, 0)", x.link(1, 0), BAD);
        due("flow(1)", x.flow(1), 0);
        due("suspicions(3), still a relay", x.suspicions(3), 0);
    }

    @Says(promise = 6, value = "Returns the number of links that are left")
    static void linksLeft() {
        CodedRelays x = full();
        for (int i = 19; i >= 0; i--) {
            due("removeLink()", x.removeLink(), i);
            due("links()", x.links(), i);
        }
    }

    @Says(promise = 6, value = "NOT_POSSIBLE if there are none.")
    static void noLinks() {
        refused(CodedRelays::new, "removeLink() of a new object", CodedRelays::removeLink, NOT);
        refused(() -> {
            CodedRelays x = network(3, 0, 1, 0);
            x.removeLink();
            x.run(2);
            return x;
        }, "removeLink() when the last one is away", CodedRelays::removeLink, NOT);
    }

    // ---- 7 setBehavior

    @Says(promise = 7, value = "`node`: a node other than 0")
    static void behavingNode() {
        due("setBehavior(1, 1)", line().setBehavior(1, 1), 0);
        due("setBehavior(2, 1) of three", line().setBehavior(2, 1), 0);
        due("setBehavior(9, 1) of ten", network(10).setBehavior(9, 1), 0);
        refusedValues(Sentences::lively, "setBehavior(v, 1)", (x, v) -> x.setBehavior(v, 1), 0, -1, 4, 9, 10, MAX);
        refused(Sentences::lively, "setBehavior(0, HONEST)", x -> x.setBehavior(0, 0), BAD);
    }

    @Says(promise = 7, value = "`behavior`: HONEST to SILENT")
    static void behaviorRange() {
        for (int behavior = 0; behavior <= 4; behavior++) {
            CodedRelays x = lively();
            due("setBehavior(3, " + behavior + ")", x.setBehavior(3, behavior), 0);
            due("setBehavior(3, 0)", x.setBehavior(3, 0), behavior);
        }
        refusedValues(Sentences::lively, "setBehavior(3, v)", (x, v) -> x.setBehavior(3, v), -1, 5, MAX);
    }

    @Says(promise = 7, value = "Returns the previous behavior")
    static void previousBehavior() {
        CodedRelays x = new CodedRelays();
        due("setBehavior(4, SILENT)", x.setBehavior(4, 4), 0);
        due("setBehavior(4, SILENT) again", x.setBehavior(4, 4), 4);
        due("setBehavior(4, 5)", x.setBehavior(4, 5), BAD);
        due("setBehavior(4, HONEST) after a refused one", x.setBehavior(4, 0), 4);
    }

    // ---- 8 setState

    @Says(promise = 8, value = "`state`: 0 to 2147483647")
    static void stateRange() {
        for (int state : new int[] {0, 1, 65535, 65536, 2147483646, 2147483647}) {
            CodedRelays x = lively();
            due("setState(" + state + ") is taken", x.setState(state) >= 0 ? 1 : 0, 1);
            due("the state", x.setState(1), state);
        }
        refusedValues(Sentences::lively, "setState(v)", (x, v) -> x.setState(v), -1, -2147483647);
    }

    @Says(promise = 8, value = "Sets the random state.")
    static void stateIsUsed() {
        CodedRelays x = line();
        x.setState(2147483647);
        x.run(1);
        // Modulo 2147483648 this state is -1, so that the next one is 12345 - 1103515245.
        due("the state after one number", stateOf(x), 2147483648L - 1103502900L);
        due("the vector", x.lastSent(0), 1043980748 / 65536 % 15 + 1);
        CodedRelays y = line();
        y.setState(0);
        y.run(1);
        due("the state after 0", stateOf(y), 12345);
        due("the vector after 0", y.lastSent(0), 1);
    }

    @Says(promise = 8, value = "Returns the previous state")
    static void previousState() {
        CodedRelays x = network(3, 0, 1, 0);
        due("setState(0)", x.setState(0), 1);
        due("setState(-1)", x.setState(-1), BAD);
        x.run(1);
        due("setState(5) after a number was taken", x.setState(5), 12345);
        due("setState(5) again", x.setState(5), 5);
    }

    // ---- 9 setLimit

    @Says(promise = 9, value = "`marks`: 1 to 9")
    static void limitRange() {
        for (int limit = 1; limit <= 9; limit++) {
            CodedRelays x = lively();
            due("setLimit(" + limit + ")", x.setLimit(limit), 5);
            due("the limit", x.setLimit(1), limit);
        }
        refusedValues(Sentences::lively, "setLimit(v)", (x, v) -> x.setLimit(v), 0, 10, -1, MAX);
    }

    @Says(promise = 9, value = "Sets the limit of marks.")
    static void limitIsUsed() {
        for (int limit = 1; limit <= 9; limit++) {
            CodedRelays x = lazyRelay();
            x.setLimit(limit);
            for (int i = 1; i < limit; i++) {
                x.check(1, 2);
            }
            due("isCutOff(1) with a mark less than " + limit, x.isCutOff(1), 0);
            x.check(1, 2);
            due("isCutOff(1) with " + limit + " marks", x.isCutOff(1), 1);
        }
    }

    @Says(promise = 9, value = "(Nobody is cut off by this.)")
    static void nobodyByTheLimit() {
        CodedRelays x = lazyRelay();
        x.check(1, 2);
        x.check(1, 2);
        due("setLimit(2) at two marks", x.setLimit(2), 3);
        due("isCutOff(1)", x.isCutOff(1), 0);
        due("setLimit(1) at two marks", x.setLimit(1), 2);
        due("isCutOff(1)", x.isCutOff(1), 0);
        x.run(1);
        due("isCutOff(1) after a round", x.isCutOff(1), 0);
    }

    @Says(promise = 9, value = "Returns the previous limit")
    static void previousLimit() {
        CodedRelays x = new CodedRelays();
        due("setLimit(9)", x.setLimit(9), 3);
        due("setLimit(1)", x.setLimit(1), 9);
        due("setLimit(10)", x.setLimit(10), BAD);
        due("setLimit(1) after a refused one", x.setLimit(1), 1);
    }

    // ---- 10 run

    @Says(promise = 10, value = "`rounds`: 1 to 50")
    static void roundsRange() {
        for (int rounds : new int[] {1, 2, 49, 50}) {
            CodedRelays x = lively();
            due("run(" + rounds + ") is taken", x.run(rounds) >= 0 ? 1 : 0, 1);
            due("rounds()", x.rounds(), 15 + rounds);
        }
        refusedValues(Sentences::lively, "run(v)", (x, v) -> x.run(v), 0, 51, -1, MAX);
    }

    @Says(promise = 10, value = "Returns the number of sums that were accepted in these rounds")
    static void acceptedSums() {
        due("run(50) without links", new CodedRelays().run(50), 0);
        due("run(50) when all is lost", network(3, 0, 1, 1).run(50), 0);
        CodedRelays x = network(10);
        x.setPackets(8);
        for (int i = 0; i < 18; i++) {
            x.addLink(0, 1 + i % 9, 0);
        }
        int accepted = x.run(1);
        due("run(1) of a first sum by one link of two, or both", accepted >= 9 && accepted <= 18 ? 1 : 0, 1);
        due("the rest of nine times eight", accepted + x.run(50), 72);
        due("run(50) when all nodes have all", x.run(50), 0);
    }

    // ---- 11 runUntil

    @Says(promise = 11, value = "`node`: a node")
    static void runUntilNode() {
        due("runUntil(0)", line().runUntil(0), 0);
        due("runUntil(2) of three", network(3, 0, 2, 0).runUntil(2) > 0 ? 1 : 0, 1);
        due("runUntil(9) of ten", network(10, 0, 9, 0).runUntil(9) > 0 ? 1 : 0, 1);
        refusedValues(Sentences::lively, "runUntil(v)", (x, v) -> x.runUntil(v), NO_NODES_OF_FOUR);
    }

    @Says(promise = 11, value = "Runs rounds until a node knows all packets, but at most 50.")
    static void atMostFiftyRounds() {
        CodedRelays just = longWay(stateForLongWay(50));
        due("runUntil(9) that takes 50", just.runUntil(9), 50);
        due("rounds()", just.rounds(), 50);
        due("knows(9)", just.knows(9), 255);
        CodedRelays less = longWay(stateForLongWay(49));
        due("runUntil(9) that takes 49", less.runUntil(9), 49);
        due("rounds()", less.rounds(), 49);
        CodedRelays more = longWay(stateForLongWay(51));
        due("runUntil(9) that takes 51", more.runUntil(9), NONE);
        due("rounds()", more.rounds(), 50);
        due("one is missing", more.runUntil(9), 1);
    }

    @Says(promise = 11, value = "Returns the number of rounds that were run, 0 if it knows all already")
    static void knowsAllAlready() {
        CodedRelays x = network(3, 0, 1, 0);
        x.setState(stateFor(15, 0, 15, 1, 15, 3, 15, 7));
        x.run(3);
        due("runUntil(1) when one is missing", x.runUntil(1), 1);
        long checksum = x.checksum();
        due("runUntil(1) when it knows all", x.runUntil(1), 0);
        due("runUntil(0), which always knows all", x.runUntil(0), 0);
        due("nothing was run", x.checksum(), checksum);
    }

    @Says(promise = 11, value = "NONE if it does not know all after 50 rounds.")
    static void notAfterFifty() {
        CodedRelays x = new CodedRelays();
        due("runUntil(4) without links", x.runUntil(4), NONE);
        due("NONE is no error, so the rounds were run", x.rounds(), 50);
        due("runUntil(4) again", x.runUntil(4), NONE);
        due("rounds()", x.rounds(), 100);
        CodedRelays y = line();
        y.setBehavior(1, CodedRelays.LAZY);
        due("runUntil(2) behind a lazy relay", y.runUntil(2), NONE);
        due("rank(2)", y.rank(2), 1);
    }

    // ---- 12 to 14

    @Says(promise = 12, value = "Returns the number of rounds of the generation so far.")
    static void roundsSoFar() {
        CodedRelays x = line();
        due("rounds() at the beginning", x.rounds(), 0);
        x.run(1);
        due("rounds() after one", x.rounds(), 1);
        x.run(51);
        due("rounds() after a refused call", x.rounds(), 1);
        x.run(50);
        due("rounds() after 50 more", x.rounds(), 51);
        x.setBehavior(1, 0);
        due("rounds() of the next generation", x.rounds(), 0);
    }

    @Says(promise = 13, value = "Returns the number of nodes.")
    static void numberOfNodes() {
        due("nodes() at first", new CodedRelays().nodes(), 5);
        due("nodes() at least", network(3).nodes(), 3);
        due("nodes() at most", network(10).nodes(), 10);
        CodedRelays x = lively();
        x.setNodes(11);
        x.setNodes(2);
        due("nodes() after refused calls", x.nodes(), 4);
    }

    @Says(promise = 14, value = "Returns the number of links.")
    static void numberOfLinks() {
        due("links() at first", new CodedRelays().links(), 0);
        CodedRelays x = full();
        due("links() at most", x.links(), 20);
        x.addLink(0, 1, 0);
        due("links() after a refused call", x.links(), 20);
        x.removeLink();
        due("links() after removeLink()", x.links(), 19);
    }

    // ---- 15 link

    @Says(promise = 15, value = "`link`: a link")
    static void linkRange() {
        CodedRelays x = network(10);
        for (int i = 0; i < 20; i++) {
            due("link(i, 0) before it is added", x.link(i, 0), BAD);
            x.addLink(i % 9, 9, 0);
            due("link(" + i + ", 0)", x.link(i, 0), i % 9);
        }
        due("link(20, 0)", x.link(20, 0), BAD);
        refusedValues(Sentences::lively, "link(v, 0)", (y, v) -> y.link(v, 0), -1, 4, 19, 20, MAX);
        refusedValues(CodedRelays::new, "link(v, 0) without links", (y, v) -> y.link(v, 0), 0);
    }

    @Says(promise = 15, value = "`what`: 0 for the node from which it leads, 1 for the node to which it leads, 2 for its loss")
    static void whatOfLink() {
        CodedRelays x = network(5, 3, 4, 9);
        due("link(0, 0)", x.link(0, 0), 3);
        due("link(0, 1)", x.link(0, 1), 4);
        due("link(0, 2)", x.link(0, 2), 9);
        refusedValues(Sentences::lively, "link(0, v)", (y, v) -> y.link(0, v), -1, 3, MAX);
    }

    // ---- 16 to 18

    @Says(promise = 16, value = "`node`: a node")
    static void rankOfNode() {
        due("rank(0)", network(3).rank(0), 4);
        due("rank(2) of three", network(3).rank(2), 0);
        due("rank(9) of ten", network(10).rank(9), 0);
        refusedValues(Sentences::lively, "rank(v)", (x, v) -> x.rank(v), NO_NODES_OF_FOUR);
    }

    @Says(promise = 16, value = "Returns its rank")
    static void ranks() {
        for (int k = 2; k <= 8; k++) {
            CodedRelays x = network(3, 0, 1, 0);
            x.setPackets(k);
            due("rank(1) at the beginning", x.rank(1), 0);
            x.run(1);
            due("rank(1) after a round", x.rank(1), 1);
            x.run(50);
            x.run(50);
            due("rank(1) at most", x.rank(1), k);
            due("rank(0)", x.rank(0), k);
        }
    }

    @Says(promise = 17, value = "`node`: a node")
    static void vectorOfNode() {
        due("vector(0, 0)", network(3).vector(0, 0), 1);
        due("vector(2, 0) of three", reached(3, 2).vector(2, 0), 9);
        due("vector(9, 0) of ten", reached(10, 9).vector(9, 0), 9);
        refusedValues(Sentences::lively, "vector(v, 0)", (x, v) -> x.vector(v, 0), NO_NODES_OF_FOUR);
    }

    /** The node has got 9, which is what the source sends first. */
    private static CodedRelays reached(int nodes, int node) {
        CodedRelays x = network(nodes, 0, node, 0);
        x.run(1);
        return x;
    }

    @Says(promise = 17, value = "`index`: the index of a sum that it has, counted from 0")
    static void vectorIndex() {
        CodedRelays x = network(3, 0, 1, 0);
        due("vector(1, 0) without sums", x.vector(1, 0), BAD);
        int[] vectors = {8, 12, 3, 1};
        for (int i = 0; i < 4; i++) {
            due("vector(1, i) before it is there", x.vector(1, i), BAD);
            roundWith(x, vectors[i]);
            due("vector(1, " + i + ")", x.vector(1, i), vectors[i]);
        }
        due("vector(1, 4) of four", x.vector(1, 4), BAD);
        x.setPackets(8);
        due("vector(1, 0) in the next generation", x.vector(1, 0), BAD);
        due("vector(0, 7) of eight", x.vector(0, 7), 128);
        due("vector(0, 8) of eight", x.vector(0, 8), BAD);
        refusedValues(() -> reached(4, 3), "vector(3, v)", (y, v) -> y.vector(3, v), -1, 1, 7, 8, MAX);
    }

    @Says(promise = 17, value = "Returns its vector")
    static void leastAndGreatestVector() {
        CodedRelays x = network(3, 0, 1, 0, 0, 2, 0);
        x.setPackets(8);
        x.setState(stateFor(255, 0, 255, 254));
        x.run(1);
        due("the least vector", x.vector(1, 0), 1);
        due("the greatest vector", x.vector(2, 0), 255);
    }

    @Says(promise = 18, value = "`node`: a node")
    static void payloadOfNode() {
        due("payload(0, 0)", network(3).payload(0, 0), 17);
        due("payload(2, 0) of three", reached(3, 2).payload(2, 0), 17 ^ 68);
        due("payload(9, 0) of ten", reached(10, 9).payload(9, 0), 17 ^ 68);
        refusedValues(Sentences::lively, "payload(v, 0)", (x, v) -> x.payload(v, 0), NO_NODES_OF_FOUR);
    }

    @Says(promise = 18, value = "`index`: the index of a sum that it has, counted from 0")
    static void payloadIndex() {
        CodedRelays x = network(3, 0, 1, 0);
        due("payload(1, 0) without sums", x.payload(1, 0), BAD);
        int[] vectors = {8, 12, 3, 1};
        int[] payloads = {68, 51 ^ 68, 17 ^ 34, 17};
        for (int i = 0; i < 4; i++) {
            due("payload(1, i) before it is there", x.payload(1, i), BAD);
            roundWith(x, vectors[i]);
            due("payload(1, " + i + ")", x.payload(1, i), payloads[i]);
        }
        due("payload(1, 4) of four", x.payload(1, 4), BAD);
        x.setPackets(8);
        due("payload(1, 0) in the next generation", x.payload(1, 0), BAD);
        due("payload(0, 7) of eight", x.payload(0, 7), 136);
        due("payload(0, 8) of eight", x.payload(0, 8), BAD);
        refusedValues(() -> reached(4, 3), "payload(3, v)", (y, v) -> y.payload(3, v), -1, 1, 7, 8, MAX);
    }

    @Says(promise = 18, value = "Returns its payload")
    static void leastAndGreatestPayload() {
        CodedRelays x = network(3, 0, 1, 0, 0, 2, 0);
        x.setPayload(0, 240);
        x.setPayload(1, 240);
        x.setPayload(2, 15);
        x.setState(stateFor(15, 2, 15, 4));
        x.run(1);
        due("the payload of a sum of two that are alike", x.payload(1, 0), 0);
        due("the payload of a sum of all bits", x.payload(2, 0), 255);
    }

    // ---- 19 fates

    @Says(promise = 19, value = "`link`: a link")
    static void fatesOfLink() {
        CodedRelays x = full();
        due("fates(0, NEW)", x.fates(0, 1), 4);
        due("fates(19, LOST)", x.fates(19, 0), 0);
        due("fates(20, LOST)", x.fates(20, 0), BAD);
        refusedValues(Sentences::lively, "fates(v, 0)", (y, v) -> y.fates(v, 0), -1, 4, 19, 20, MAX);
        refusedValues(CodedRelays::new, "fates(v, 0) without links", (y, v) -> y.fates(v, 0), 0);
    }

    @Says(promise = 19, value = "`fate`: LOST to CONFLICTING")
    static void fateRange() {
        CodedRelays x = network(3, 0, 1, 3);
        for (int vector : new int[] {1, 1, 2, 2, 3}) {
            roundWith(x, vector);
        }
        due("fates(0, LOST)", x.fates(0, 0), 1);
        due("fates(0, NEW)", x.fates(0, 1), 2);
        due("fates(0, REDUNDANT)", x.fates(0, 2), 2);
        due("fates(0, CONFLICTING)", x.fates(0, 3), 0);
        refusedValues(Sentences::lively, "fates(0, v)", (y, v) -> y.fates(0, v), -1, 4, MAX);
    }

    @Says(promise = 19, value = "Returns the number of sums that were sent over it and became this")
    static void fatesTogether() {
        CodedRelays x = network(3, 0, 1, 0, 1, 2, 4, 0, 2, 9);
        x.setBehavior(1, CodedRelays.ALTERING);
        for (int fate = 0; fate < 4; fate++) {
            due("fates(0, " + fate + ") at the beginning", x.fates(0, fate), 0);
        }
        x.run(37);
        int[] sent = {37, 36, 37};
        int[] lost = {0, 9, 4};
        for (int link = 0; link < 3; link++) {
            int together = 0;
            for (int fate = 0; fate < 4; fate++) {
                together += x.fates(link, fate);
            }
            due("all that was sent over " + link, together, sent[link]);
            due("fates(" + link + ", LOST)", x.fates(link, 0), lost[link]);
        }
        due("CONFLICTING there were", x.fates(1, 3) + x.fates(2, 3) > 0 ? 1 : 0, 1);
    }

    // ---- 20 to 22

    @Says(promise = 20, value = "`link`: a link")
    static void lastSentOfLink() {
        refusedValues(Sentences::lively, "lastSent(v)", (x, v) -> x.lastSent(v), -1, 4, 19, 20, MAX);
        refusedValues(CodedRelays::new, "lastSent(v) without links", (x, v) -> x.lastSent(v), 0);
        CodedRelays x = full();
        due("lastSent(20) of twenty links", x.lastSent(20), BAD);
    }

    @Says(promise = 20, value = "Returns the vector that was sent over it last")
    static void lastVector() {
        CodedRelays x = network(3, 0, 1, 1, 0, 2, 0);
        x.setPackets(8);
        x.setState(stateFor(255, 0, 255, 254));
        x.run(1);
        due("the least vector, though it was lost", x.lastSent(0), 1);
        due("the greatest vector", x.lastSent(1), 255);
        x.setState(stateFor(255, 254, 255, 0));
        x.run(1);
        due("the greatest vector, though it was lost", x.lastSent(0), 255);
        due("the least vector", x.lastSent(1), 1);
    }

    @Says(promise = 20, value = "NONE if nothing has been sent.")
    static void nothingSent() {
        CodedRelays x = line();
        due("lastSent(0) at the beginning", x.lastSent(0), NONE);
        x.run(1);
        due("lastSent(1): node 1 had nothing", x.lastSent(1), NONE);
        x.run(1);
        due("lastSent(1) a round later", x.lastSent(1) > 0 ? 1 : 0, 1);
        x.setBehavior(1, CodedRelays.SILENT);
        due("lastSent(0) in the next generation", x.lastSent(0), NONE);
        x.run(50);
        due("lastSent(1) of a silent relay", x.lastSent(1), NONE);
    }

    @Says(promise = 21, value = "`link`: a link")
    static void endSumOfLink() {
        refusedValues(Sentences::lively, "endSum(v, true)", (x, v) -> x.endSum(v, true), -1, 4, 19, 20, MAX);
        refusedValues(Sentences::lively, "endSum(v, false)", (x, v) -> x.endSum(v, false), -1, 4, 19, 20, MAX);
        refusedValues(CodedRelays::new, "endSum(v, true) without links", (x, v) -> x.endSum(v, true), 0);
        CodedRelays x = full();
        due("endSum(20, true) of twenty links", x.endSum(20, true), BAD);
        due("endSum(20, false) of twenty links", x.endSum(20, false), BAD);
    }

    @Says(promise = 21, value = "`received`: true for the sum of the vectors that were received, false for that of those that were sent")
    static void bothEnds() {
        CodedRelays x = network(3, 0, 1, 1, 0, 2, 2);
        x.setState(stateFor(15, 6, 15, 8));
        x.run(1);
        due("endSum(0, false)", x.endSum(0, false), 7);
        due("endSum(0, true), where all is lost", x.endSum(0, true), 0);
        due("endSum(1, false)", x.endSum(1, false), 9);
        due("endSum(1, true)", x.endSum(1, true), 9);
    }

    @Says(promise = 21, value = "Returns this sum")
    static void emptyAndCancelledSum() {
        CodedRelays x = network(3, 0, 1, 0);
        due("endSum(0, false) of nothing", x.endSum(0, false), 0);
        due("endSum(0, true) of nothing", x.endSum(0, true), 0);
        roundWith(x, 15);
        due("endSum(0, true) of 15", x.endSum(0, true), 15);
        roundWith(x, 15);
        due("endSum(0, false) of 15 twice", x.endSum(0, false), 0);
        due("endSum(0, true) of 15 twice", x.endSum(0, true), 0);
        due("lastSent(0)", x.lastSent(0), 15);
    }

    @Says(promise = 22, value = "Returns the number of links whose two end sums differ.")
    static void differingLinks() {
        due("differing() without links", new CodedRelays().differing(), 0);
        CodedRelays none = network(3);
        CodedRelays all = network(3);
        for (int i = 0; i < 20; i++) {
            none.addLink(0, 1, 0);
            all.addLink(0, 1, 1);
        }
        due("differing() at the beginning", all.differing(), 0);
        none.run(1);
        all.run(1);
        due("differing() without losses", none.differing(), 0);
        due("differing() where all is lost", all.differing(), 20);
        CodedRelays x = network(3, 0, 1, 1);
        roundWith(x, 6);
        due("differing() after one lost 6", x.differing(), 1);
        roundWith(x, 6);
        due("differing() after two lost 6", x.differing(), 0);
    }

    // ---- 23 to 25

    @Says(promise = 23, value = "`node`: a node")
    static void knowsOfNode() {
        due("knows(0)", network(3).knows(0), 15);
        due("knows(2) of three", network(3).knows(2), 0);
        due("knows(9) of ten", network(10).knows(9), 0);
        refusedValues(Sentences::lively, "knows(v)", (x, v) -> x.knows(v), NO_NODES_OF_FOUR);
    }

    @Says(promise = 23, value = "Returns the set of the packets that it knows, as a vector")
    static void knownPackets() {
        for (int k = 2; k <= 8; k++) {
            CodedRelays x = network(3, 0, 1, 0);
            x.setPackets(k);
            due("knows(0) of " + k, x.knows(0), (1 << k) - 1);
            due("knows(1) of none", x.knows(1), 0);
            x.run(50);
            x.run(50);
            due("knows(1) of all", x.knows(1), (1 << k) - 1);
        }
        CodedRelays y = network(3, 0, 1, 0);
        roundWith(y, 15);
        due("knows(1) by a sum of all four", y.knows(1), 0);
        roundWith(y, 7);
        due("knows(1) by that and a sum of three", y.knows(1), 8);
    }

    @Says(promise = 24, value = "`node`: a node")
    static void solveOfNode() {
        due("solve(0, 0)", network(3).solve(0, 0), 17);
        due("solve(2, 0) of three", network(3).solve(2, 0), NONE);
        due("solve(9, 0) of ten", network(10).solve(9, 0), NONE);
        refusedValues(Sentences::lively, "solve(v, 0)", (x, v) -> x.solve(v, 0), NO_NODES_OF_FOUR);
    }

    @Says(promise = 24, value = "`packet`: 0 to k - 1")
    static void packetOfSolve() {
        for (int k = 2; k <= 8; k++) {
            CodedRelays x = new CodedRelays();
            x.setPackets(k);
            due("solve(0, 0)", x.solve(0, 0), 17);
            due("solve(0, k - 1) with k = " + k, x.solve(0, k - 1), 17 * k);
            due("solve(0, k) with k = " + k, x.solve(0, k), BAD);
            due("solve(1, k), BAD_VALUE before NONE", x.solve(1, k), BAD);
        }
        refusedValues(Sentences::lively, "solve(2, v)", (x, v) -> x.solve(2, v), -1, 4, 8, 31, 32, MAX);
    }

    @Says(promise = 24, value = "Returns the payload of the packet for this node")
    static void leastAndGreatestSolution() {
        CodedRelays x = network(3, 0, 1, 0);
        x.setPayload(0, 0);
        x.setPayload(3, 255);
        x.run(50);
        due("solve(0, 0)", x.solve(0, 0), 0);
        due("solve(1, 0), which is 0 and not NONE", x.solve(1, 0), 0);
        due("solve(1, 3)", x.solve(1, 3), 255);
    }

    @Says(promise = 24, value = "NONE if it does not know the packet.")
    static void unknownPacket() {
        CodedRelays x = network(3, 0, 1, 0);
        due("solve(1, 0) without sums", x.solve(1, 0), NONE);
        roundWith(x, 3);
        due("solve(1, 0) by 3", x.solve(1, 0), NONE);
        due("solve(1, 1) by 3", x.solve(1, 1), NONE);
        roundWith(x, 2);
        due("solve(1, 0) by 3 and 2", x.solve(1, 0), 17);
        due("solve(1, 2) by 3 and 2", x.solve(1, 2), NONE);
    }

    @Says(promise = 25, value = "Returns the number of pairs of a node other than 0 and a packet that it knows "
        + "with a payload that is not that of the packet.")
    static void wrongPairs() {
        due("wrong() of a new object", new CodedRelays().wrong(), 0);
        CodedRelays x = network(10, 0, 1, 0, 1, 9, 0);
        x.setPackets(2);
        x.setBehavior(1, CodedRelays.ALTERING);
        x.setState(stateFor(3, 2));
        x.run(1);
        x.setState(stateFor(3, 2, 1, 0));
        x.run(1);
        due("rank(9)", x.rank(9), 1);
        due("wrong(): an altered sum of two tells no packet", x.wrong(), 0);
        x.setState(stateFor(3, 0, 1, 0));
        x.run(1);
        x.setState(stateFor(3, 0, 3, 1));
        x.run(1);
        // Node 9 has 3 and then 1, both altered: packet 0 is wrong, and packet 1, their sum, is right.
        due("vector(9, 1)", x.vector(9, 1), 1);
        due("solve(9, 0)", x.solve(9, 0), 16);
        due("solve(9, 1)", x.solve(9, 1), 34);
        due("wrong()", x.wrong(), 1);
        due("wrong() without bad relays", honest().wrong(), 0);
        wrongOfTheLargest();
    }

    /** Ten nodes and eight packets; each node from 2 to 9 knows packet 7 alone, by an altered sum. */
    private static void wrongOfTheLargest() {
        CodedRelays x = network(10, 0, 1, 0);
        for (int i = 2; i < 10; i++) {
            x.addLink(1, i, 0);
        }
        x.setPackets(8);
        x.setBehavior(1, CodedRelays.ALTERING);
        x.setState(stateFor(255, 127));
        x.run(1);
        x.run(1);
        due("knows(9)", x.knows(9), 128);
        due("wrong() of eight nodes and one packet", x.wrong(), 8);
    }

    private static CodedRelays honest() {
        CodedRelays x = line();
        x.run(50);
        return x;
    }

    // ---- 26 and 27

    @Says(promise = 26, value = "`node`: a node")
    static void combinationOfNode() {
        due("combination(0, 15)", network(3).combination(0, 15), 15);
        due("combination(2, 0) of three", network(3).combination(2, 0), 0);
        due("combination(9, 0) of ten", network(10).combination(9, 0), 0);
        refusedValues(Sentences::lively, "combination(v, 0)", (x, v) -> x.combination(v, 0), NO_NODES_OF_FOUR);
    }

    @Says(promise = 26, value = "`vector`: 0 to 2 to the power of k, minus 1")
    static void vectorOfCombination() {
        for (int k = 2; k <= 8; k++) {
            CodedRelays x = new CodedRelays();
            x.setPackets(k);
            int all = (1 << k) - 1;
            due("combination(0, 0)", x.combination(0, 0), 0);
            due("combination(0, " + all + ")", x.combination(0, all), all);
            due("combination(0, " + (all + 1) + ")", x.combination(0, all + 1), BAD);
            due("combination(1, " + (all + 1) + "), BAD_VALUE before NONE", x.combination(1, all + 1), BAD);
        }
        refusedValues(Sentences::lively, "combination(2, v)", (x, v) -> x.combination(2, v), -1, 16, 256, MAX);
    }

    @Says(promise = 26, value = "bit i for the one with the index i")
    static void combinationOfIndexes() {
        CodedRelays x = network(3, 0, 1, 0);
        x.setPackets(8);
        x.run(50);
        due("rank(1)", x.rank(1), 8);
        for (int i = 0; i < 8; i++) {
            due("combination(1, vector(1, " + i + "))", x.combination(1, x.vector(1, i)), 1 << i);
        }
        int sum = 0;
        for (int i = 0; i < 8; i++) {
            sum ^= x.vector(1, i);
        }
        due("combination() of all eight", x.combination(1, sum), 255);
    }

    @Says(promise = 26, value = "(0, the empty set, for the vector 0)")
    static void emptySet() {
        CodedRelays x = network(3, 0, 1, 0);
        due("combination(1, 0) without sums", x.combination(1, 0), 0);
        x.run(50);
        due("combination(1, 0) with all", x.combination(1, 0), 0);
        due("combination(0, 0)", x.combination(0, 0), 0);
    }

    @Says(promise = 26, value = "NONE if there is no such set.")
    static void noSuchSet() {
        CodedRelays x = network(3, 0, 1, 0);
        for (int vector = 1; vector < 16; vector++) {
            due("combination(1, " + vector + ") without sums", x.combination(1, vector), NONE);
        }
        roundWith(x, 12);
        due("combination(1, 12)", x.combination(1, 12), 1);
        due("combination(1, 4)", x.combination(1, 4), NONE);
        due("combination(1, 8)", x.combination(1, 8), NONE);
        due("combination(1, 15)", x.combination(1, 15), NONE);
    }

    @Says(promise = 27, value = "`node`: a node")
    static void commonOfNode() {
        due("commonRank(0, 0)", network(3).commonRank(0, 0), 4);
        due("commonRank(2, 0) of three", network(3).commonRank(2, 0), 0);
        due("commonRank(9, 0) of ten", network(10).commonRank(9, 0), 0);
        refusedValues(Sentences::lively, "commonRank(v, 0)", (x, v) -> x.commonRank(v, 0), NO_NODES_OF_FOUR);
    }

    @Says(promise = 27, value = "`other`: a node")
    static void commonOfOther() {
        due("commonRank(0, 2) of three", network(3).commonRank(0, 2), 0);
        due("commonRank(0, 9) of ten", network(10).commonRank(0, 9), 0);
        refusedValues(Sentences::lively, "commonRank(0, v)", (x, v) -> x.commonRank(0, v), NO_NODES_OF_FOUR);
        refused(Sentences::lively, "commonRank(4, 4)", x -> x.commonRank(4, 4), BAD);
    }

    @Says(promise = 27, value = "Counts the vectors that are sums of vectors of one node and of the other one.")
    static void oneVectorInCommon() {
        CodedRelays x = network(3, 0, 1, 0, 0, 2, 0);
        due("without sums, 0 alone is a sum of both", x.commonRank(1, 2), 0);
        x.setState(stateFor(15, 0, 15, 1));
        x.run(1);
        due("commonRank(1, 2) of 1 and 2", x.commonRank(1, 2), 0);
        x.setState(stateFor(15, 3, 15, 6));
        x.run(1);
        due("commonRank(1, 2) of 1, 4 and 2, 7: both have 5", x.commonRank(1, 2), 1);
    }

    @Says(promise = 27, value = "Returns the rank of what both have in common: the logarithm to the base 2 of this number")
    static void allInCommon() {
        for (int k = 2; k <= 8; k += 6) {
            CodedRelays x = network(3, 0, 1, 0, 0, 2, 0);
            x.setPackets(k);
            x.run(1);
            due("commonRank(1, 1) of one", x.commonRank(1, 1), 1);
            due("commonRank(0, 1) of one", x.commonRank(0, 1), 1);
            x.run(50);
            due("commonRank(1, 2) of all", x.commonRank(1, 2), k);
            due("commonRank(2, 0) of all", x.commonRank(2, 0), k);
            due("commonRank(2, 2) of all", x.commonRank(2, 2), k);
        }
    }

    // ---- 28 to 30

    private static final int[] NO_RELAYS = {0, 3, -1, 4, 9, 10, MAX};

    /** Relay 8 of ten nodes is silent and has all packets; node 9 gets nothing. */
    private static CodedRelays silentEight(int packets) {
        CodedRelays x = network(10, 0, 8, 0, 8, 9, 0);
        x.setPackets(packets);
        x.setBehavior(8, CodedRelays.SILENT);
        x.run(50);
        return x;
    }

    @Says(promise = 28, value = "`relay`: a relay (any other node does not exist as such: BAD_VALUE)")
    static void suspectOfRelay() {
        due("suspect(1, 1)", lively().suspect(1, 1) >= 0 ? 1 : 0, 1);
        due("suspect(2, 1)", lively().suspect(2, 1) >= 0 ? 1 : 0, 1);
        due("suspect(8, 1) of ten", silentEight(4).suspect(8, 1), 1);
        due("suspect(9, 1) of ten", silentEight(4).suspect(9, 1), BAD);
        refusedValues(Sentences::lively, "suspect(v, 1)", (x, v) -> x.suspect(v, 1), NO_RELAYS);
        refused(CodedRelays::new, "suspect(1, 1) without links", x -> x.suspect(1, 1), BAD);
    }

    @Says(promise = 28, value = "`projection`: 1 to 2 to the power of k, minus 1")
    static void projectionOfSuspect() {
        for (int k = 2; k <= 8; k++) {
            CodedRelays x = silentEight(k);
            due("suspect(8, 0)", x.suspect(8, 0), BAD);
            due("suspect(8, 1)", x.suspect(8, 1), 1);
            due("suspect(8, 2^k - 1) with k = " + k, x.suspect(8, (1 << k) - 1), 1);
            due("suspect(8, 2^k) with k = " + k, x.suspect(8, 1 << k), BAD);
        }
        refusedValues(Sentences::lively, "suspect(2, v)", (x, v) -> x.suspect(2, v), 0, 16, -1, 256, MAX);
    }

    @Says(promise = 28, value = "Returns 1 if it is suspect, 0 if not")
    static void suspectOrNot() {
        CodedRelays x = line();
        due("suspect(1, 1) without sums", x.suspect(1, 1), 0);
        roundWith(x, 1);
        due("suspect(1, 1) with 1 unsent", x.suspect(1, 1), 1);
        due("suspect(1, 2) with 1 unsent", x.suspect(1, 2), 0);
        roundWith(x, 1);
        due("suspect(1, 1) with 1 sent", x.suspect(1, 1), 0);
    }

    @Says(promise = 29, value = "`relay`: a relay (any other node does not exist as such: BAD_VALUE)")
    static void suspicionsOfRelay() {
        due("suspicions(8) of ten", silentEight(4).suspicions(8), 15);
        due("suspicions(9) of ten", silentEight(4).suspicions(9), BAD);
        refusedValues(Sentences::lively, "suspicions(v)", (x, v) -> x.suspicions(v), NO_RELAYS);
        refused(CodedRelays::new, "suspicions(1) without links", x -> x.suspicions(1), BAD);
    }

    @Says(promise = 29, value = "Returns the number of projections for which it is suspect")
    static void noneToAllSuspicions() {
        for (int k = 2; k <= 8; k++) {
            due("suspicions(8) for all projections, k = " + k, silentEight(k).suspicions(8), (1 << k) - 1);
        }
        due("suspicions(1) without sums", line().suspicions(1), 0);
        due("suspicions(1) of an honest relay", honest().suspicions(1), 0);
        CodedRelays x = line();
        x.run(1);
        due("suspicions(1) with one sum, for half of 16 projections", x.suspicions(1), 8);
    }

    @Says(promise = 30, value = "`relay`: a relay (any other node does not exist as such: BAD_VALUE)")
    static void checkOfRelay() {
        due("check(2, 1)", lively().check(2, 1) >= 1 ? 1 : 0, 1);
        due("check(8, 1) of ten", silentEight(4).check(8, 1), 1);
        due("check(9, 1) of ten", silentEight(4).check(9, 1), BAD);
        refusedValues(Sentences::lively, "check(v, 1)", (x, v) -> x.check(v, 1), NO_RELAYS);
        refused(CodedRelays::new, "check(1, 1) without links", x -> x.check(1, 1), BAD);
    }

    @Says(promise = 30, value = "`projection`: 1 to 2 to the power of k, minus 1")
    static void projectionOfCheck() {
        for (int k = 2; k <= 8; k++) {
            CodedRelays x = silentEight(k);
            due("check(8, 0)", x.check(8, 0), BAD);
            due("check(8, 2^k) with k = " + k, x.check(8, 1 << k), BAD);
            due("check(8, 1)", x.check(8, 1), 1);
            due("check(8, 2^k - 1) with k = " + k, x.check(8, (1 << k) - 1), 2);
        }
        refusedValues(Sentences::lively, "check(2, v)", (x, v) -> x.check(2, v), 0, 16, -1, 256, MAX);
    }

    @Says(promise = 30, value = "Returns the number of its marks then")
    static void marksThen() {
        CodedRelays x = lazyRelay();
        x.setLimit(9);
        due("check(1, 1), not suspect", x.check(1, 1), 0);
        for (int i = 1; i <= 9; i++) {
            due("check(1, 2)", x.check(1, 2), i);
        }
        due("isCutOff(1)", x.isCutOff(1), 1);
    }

    @Says(promise = 30, value = "NOT_POSSIBLE if it is cut off.")
    static void checkOfOneThatIsCutOff() {
        refused(Sentences::lively, "check(1, 2)", x -> x.check(1, 2), NOT);
        for (int projection = 1; projection < 16; projection++) {
            due("check(1, " + projection + ")", lively().check(1, projection), NOT);
        }
        refused(Sentences::lively, "check(1, 0), BAD_VALUE first", x -> x.check(1, 0), BAD);
        refused(Sentences::lively, "check(1, 16), BAD_VALUE first", x -> x.check(1, 16), BAD);
        CodedRelays x = lively();
        x.setBehavior(1, CodedRelays.LAZY);
        due("check(1, 2) in the next generation", x.check(1, 2), 0);
    }

    // ---- 31 checkRandomly

    /** Relays 1 to 8 are silent and have both packets; each is suspect for each projection. */
    private static CodedRelays eightSilent() {
        CodedRelays x = network(10);
        x.setPackets(2);
        for (int i = 1; i <= 8; i++) {
            x.addLink(0, i, 0);
            x.addLink(i, 9, 0);
            x.setBehavior(i, CodedRelays.SILENT);
        }
        x.run(50);
        return x;
    }

    @Says(promise = 31, value = "`checks`: 1 to 50")
    static void checksRange() {
        CodedRelays one = eightSilent();
        int state = stateOf(one);
        due("checkRandomly(1)", one.checkRandomly(1), 1);
        due("the numbers of one check", stateOf(one), after(state, 2));
        CodedRelays many = eightSilent();
        many.setLimit(9);
        due("checkRandomly(50)", many.checkRandomly(50), 50);
        due("the numbers of fifty checks", stateOf(many), after(state, 100));
        refusedValues(Sentences::lively, "checkRandomly(v)", (x, v) -> x.checkRandomly(v), 0, 51, -1, MAX);
    }

    @Says(promise = 31, value = "if there are relays that are not cut off")
    static void noRelayLeft() {
        CodedRelays x = eightSilent();
        x.setLimit(1);
        int state = stateOf(x);
        due("checkRandomly(50) of eight that are cut off at once", x.checkRandomly(50), 8);
        due("numbers are taken for eight checks", stateOf(x), after(state, 16));
        due("checkRandomly(50) of none", x.checkRandomly(50), 0);
        due("no number is taken then", stateOf(x), after(state, 16));
        CodedRelays none = network(3, 0, 1, 0, 0, 2, 0);
        none.run(5);
        state = stateOf(none);
        due("checkRandomly(50) where no node is a relay", none.checkRandomly(50), 0);
        due("no number is taken either", stateOf(none), state);
    }

    @Says(promise = 31, value = "the random number below their number tells which of them (in ascending order) is checked")
    static void firstAndLastRelay() {
        for (int which = 0; which < 8; which++) {
            CodedRelays x = eightSilent();
            x.setLimit(1);
            x.setState(stateFor(8, which, 3, 0));
            due("checkRandomly(1)", x.checkRandomly(1), 1);
            for (int i = 1; i < 10; i++) {
                due("isCutOff(" + i + ") after number " + which, x.isCutOff(i), i == which + 1 ? 1 : 0);
            }
        }
        CodedRelays x = eightSilent();
        x.setLimit(1);
        x.setState(stateFor(8, 0, 3, 0, 7, 6, 3, 0, 6, 0, 3, 0));
        due("checkRandomly(3)", x.checkRandomly(3), 3);
        due("the first of eight", x.isCutOff(1), 1);
        due("the last of the seven that are left", x.isCutOff(8), 1);
        due("the first of the six that are left", x.isCutOff(2), 1);
    }

    @Says(promise = 31, value = "the next random number below 2 to the power of k, minus 1, plus 1, is the projection.")
    static void leastAndGreatestProjection() {
        // Relay 1 has 1, 2 and 4 and has sent 1: it is suspect for 2, 4 and 6, with 8 or without it.
        int[] suspectFor = {0, 0, 1, 0, 1, 0, 1, 0, 0, 0, 1, 0, 1, 0, 1, 0};
        for (int projection = 1; projection < 16; projection++) {
            CodedRelays x = lazyRelay();
            x.setState(stateFor(1, 0, 15, projection - 1));
            due("checkRandomly(1) for " + projection, x.checkRandomly(1), suspectFor[projection]);
            due("marks(1)", x.marks(1), suspectFor[projection]);
        }
        CodedRelays x = network(3, 0, 1, 0, 1, 2, 0);
        x.setPackets(8);
        x.setBehavior(1, CodedRelays.SILENT);
        x.setState(stateFor(255, 254));
        x.run(1);
        // 255 is the only vector; it is odd for 1 and even for 255.
        x.setState(stateFor(1, 0, 255, 0));
        due("checkRandomly(1) for 1 of 255", x.checkRandomly(1), 1);
        x.setState(stateFor(1, 0, 255, 254));
        due("checkRandomly(1) for 255 of 255", x.checkRandomly(1), 0);
        x.setState(stateFor(1, 0, 255, 253));
        due("checkRandomly(1) for 254 of 255", x.checkRandomly(1), 1);
    }

    @Says(promise = 31, value = "Returns the number of checks for which the relay was suspect")
    static void noneToFiftySuspect() {
        CodedRelays x = eightSilent();
        x.setLimit(9);
        due("all of 50", x.checkRandomly(50), 50);
        due("until each of eight has nine marks", x.checkRandomly(50), 22);
        due("none when all are cut off", x.checkRandomly(50), 0);
        CodedRelays y = honest();
        int state = stateOf(y);
        due("none for an honest relay", y.checkRandomly(50), 0);
        due("yet numbers were taken", stateOf(y), after(state, 100));
    }

    // ---- 32 to 34

    @Says(promise = 32, value = "`node`: a node")
    static void marksOfNode() {
        due("marks(0)", network(3).marks(0), 0);
        due("marks(2) of three, no relay", network(3).marks(2), 0);
        due("marks(9) of ten", network(10).marks(9), 0);
        refusedValues(Sentences::lively, "marks(v)", (x, v) -> x.marks(v), NO_NODES_OF_FOUR);
    }

    @Says(promise = 32, value = "Returns the number of its marks")
    static void noneToNineMarks() {
        CodedRelays x = lazyRelay();
        x.setLimit(9);
        for (int i = 0; i < 9; i++) {
            due("marks(1)", x.marks(1), i);
            x.check(1, 2);
        }
        due("marks(1) at most", x.marks(1), 9);
        x.check(1, 2);
        due("marks(1) after a refused check", x.marks(1), 9);
        x.setPayload(0, 17);
        due("marks(1) in the next generation", x.marks(1), 0);
    }

    @Says(promise = 33, value = "`node`: a node")
    static void cutOffOfNode() {
        due("isCutOff(0)", network(3).isCutOff(0), 0);
        due("isCutOff(2) of three, no relay", network(3).isCutOff(2), 0);
        due("isCutOff(9) of ten", network(10).isCutOff(9), 0);
        refusedValues(Sentences::lively, "isCutOff(v)", (x, v) -> x.isCutOff(v), NO_NODES_OF_FOUR);
    }

    @Says(promise = 33, value = "Returns 1 if it is cut off, 0 if not")
    static void cutOffOrNot() {
        CodedRelays x = silentEight(2);
        x.check(8, 1);
        x.check(8, 1);
        due("isCutOff(8) with two marks of three", x.isCutOff(8), 0);
        x.check(8, 1);
        due("isCutOff(8) with three marks of three", x.isCutOff(8), 1);
        due("isCutOff(9)", x.isCutOff(9), 0);
        due("isCutOff(7)", x.isCutOff(7), 0);
    }

    @Says(promise = 34, value = "`relay`: a relay (any other node does not exist as such: BAD_VALUE)")
    static void sentRankOfRelay() {
        due("sentRank(8) of ten", silentEight(4).sentRank(8), 0);
        due("sentRank(9) of ten", silentEight(4).sentRank(9), BAD);
        refusedValues(Sentences::lively, "sentRank(v)", (x, v) -> x.sentRank(v), NO_RELAYS);
        refused(CodedRelays::new, "sentRank(1) without links", x -> x.sentRank(1), BAD);
    }

    @Says(promise = 34, value = "Returns the rank of the vectors that it has sent in this generation")
    static void noneToAllSent() {
        for (int k = 2; k <= 8; k++) {
            CodedRelays x = network(3, 0, 1, 0, 1, 2, 1);
            x.setPackets(k);
            x.run(1);
            due("sentRank(1) of nothing", x.sentRank(1), 0);
            x.run(1);
            due("sentRank(1) of one vector, which was lost", x.sentRank(1), 1);
            x.run(50);
            x.run(50);
            due("sentRank(1) at most", x.sentRank(1), k);
            x.setBehavior(1, 0);
            due("sentRank(1) in the next generation", x.sentRank(1), 0);
        }
    }

    // ---- 35 and 36

    @Says(promise = 35, value = "`node`: a node other than 0")
    static void flowOfNode() {
        due("flow(1)", network(3, 0, 1, 0).flow(1), 1);
        due("flow(2) of three", network(3, 0, 2, 0).flow(2), 1);
        due("flow(9) of ten", network(10, 0, 9, 0).flow(9), 1);
        refusedValues(Sentences::lively, "flow(v)", (x, v) -> x.flow(v), 0, -1, 4, 9, 10, MAX);
    }

    @Says(promise = 35, value = "Returns its flow")
    static void noneToTwentyWays() {
        due("flow(1) without links", new CodedRelays().flow(1), 0);
        CodedRelays x = network(3);
        for (int i = 1; i <= 20; i++) {
            x.addLink(0, 2, 1);
            due("flow(2) of " + i + " links", x.flow(2), i);
        }
        CodedRelays y = network(3);
        for (int i = 0; i < 20; i++) {
            y.addLink(i % 2, i % 2 + 1, 0);
        }
        due("flow(2) of ten links behind ten", y.flow(2), 10);
        due("flow(3) of a link from where nothing leads to", network(4, 2, 3, 0).flow(3), 0);
    }

    @Says(promise = 36, value = "`node`: a node other than 0")
    static void neededOfNode() {
        due("neededLink(1)", network(3, 0, 1, 0).neededLink(1), 0);
        due("neededLink(2) of three", network(3, 0, 2, 0).neededLink(2), 0);
        due("neededLink(9) of ten", network(10, 0, 9, 0).neededLink(9), 0);
        due("neededLink(0) without links, BAD_VALUE before NONE", new CodedRelays().neededLink(0), BAD);
        refusedValues(Sentences::lively, "neededLink(v)", (x, v) -> x.neededLink(v), 0, -1, 4, 9, 10, MAX);
    }

    @Says(promise = 36, value = "Returns the open link with the lowest number without which the flow of the node would be smaller")
    static void lowestAndHighestLink() {
        CodedRelays x = network(3);
        for (int i = 0; i < 19; i++) {
            x.addLink(0, 1, 0);
        }
        x.addLink(1, 2, 0);
        due("neededLink(2), the last of twenty", x.neededLink(2), 19);
        due("neededLink(1), the first of all", x.neededLink(1), 0);
        CodedRelays all = network(3);
        for (int i = 0; i < 20; i++) {
            all.addLink(0, 2, 0);
        }
        due("neededLink(2), the first of twenty that all count", all.neededLink(2), 0);
        CodedRelays open = network(4, 0, 1, 0, 1, 3, 0, 0, 2, 0, 2, 3, 0);
        due("neededLink(3) with two ways", open.neededLink(3), 0);
        open.setBehavior(1, CodedRelays.SILENT);
        open.run(9);
        open.setLimit(1);
        open.check(1, firstSuspicion(open, 1));
        due("neededLink(3) with node 1 cut off", open.neededLink(3), 2);
    }

    @Says(promise = 36, value = "NONE if the flow is 0.")
    static void noFlow() {
        due("neededLink(1) without links", new CodedRelays().neededLink(1), NONE);
        due("neededLink(2) where no way leads to", network(3, 0, 1, 0).neededLink(2), NONE);
        due("neededLink(2) by a link from nowhere", network(3, 1, 2, 0).neededLink(2), NONE);
        due("neededLink(1) of one that is cut off", lively().neededLink(1), NONE);
    }

    // ---- 37 and 38

    @Says(promise = 37, value = "`character`: its code, 32 to 126")
    static void characterRange() {
        for (int code = 32; code <= 126; code++) {
            due("append(" + code + ")", new CodedRelays().append(code), 1);
        }
        refusedValues(Sentences::lively, "append(v)", (x, v) -> x.append(v), 31, 127, 0, -1, 10, 255, 65536 + 48, MAX);
    }

    @Says(promise = 37, value = "Appends a character to the text.")
    static void appendedLast() {
        CodedRelays x = new CodedRelays();
        write(x, "0>1");
        due("faultPosition() without the semicolon", x.faultPosition(), 3);
        x.append(';');
        due("faultPosition() with it", x.faultPosition(), NONE);
        x.append(' ');
        due("faultPosition() with a space behind it", x.faultPosition(), 4);
    }

    @Says(promise = 37, value = "Returns the length of the text")
    static void lengthOfText() {
        CodedRelays x = new CodedRelays();
        for (int i = 1; i <= 100; i++) {
            due("append(48)", x.append(48), i);
        }
    }

    @Says(promise = 37, value = "FULL if it has 100 characters.")
    static void fullText() {
        refused(Sentences::full, "append(48)", x -> x.append(48), FULL);
        refused(Sentences::full, "append(31), BAD_VALUE first", x -> x.append(31), BAD);
        refused(Sentences::full, "append(127), BAD_VALUE first", x -> x.append(127), BAD);
        CodedRelays x = full();
        x.clearText();
        due("append(48) when it is empty again", x.append(48), 1);
    }

    @Says(promise = 38, value = "Empties the text.")
    static void emptied() {
        CodedRelays x = full();
        x.append(48);
        x.clearText();
        due("faultPosition()", x.faultPosition(), NONE);
        due("read()", x.read(), 0);
        due("append(59)", x.append(59), 1);
        due("faultPosition()", x.faultPosition(), 0);
    }

    @Says(promise = 38, value = "Returns the length that it had.")
    static void lengthThatItHad() {
        due("clearText() of a new object", new CodedRelays().clearText(), 0);
        CodedRelays x = full();
        due("clearText() of the longest text", x.clearText(), 100);
        due("clearText() again", x.clearText(), 0);
        x.append(48);
        due("clearText() of one character", x.clearText(), 1);
    }

    // ---- 39 and 40

    @Says(promise = 39, value = "Returns the fault position of the text")
    static void firstToLastFault() {
        CodedRelays x = new CodedRelays();
        due("a fault in the first character", faultOf(x, "x0>1;"), 0);
        due("one character that is too early an end", faultOf(x, "0"), 1);
        StringBuilder text = new StringBuilder();
        for (int i = 0; i < 20; i++) {
            text.append("b1=1;");
        }
        due("a fault in the last of 100", faultOf(new CodedRelays(), text.substring(0, 99) + "x"), 99);
        due("99 characters that end too early", faultOf(new CodedRelays(), text.substring(0, 99)), 99);
        due("100 characters that end too early", faultOf(new CodedRelays(), "0>1/3;" + text.substring(0, 94)), 100);
        due("the first of two faults", faultOf(x, "0>1;y;z"), 4);
    }

    @Says(promise = 39, value = "NONE if it has no fault.")
    static void noFault() {
        due("faultPosition() of an empty text", new CodedRelays().faultPosition(), NONE);
        due("faultPosition() of a link", faultOf(new CodedRelays(), "0>1;"), NONE);
        due("faultPosition() of a behavior", faultOf(new CodedRelays(), "b4=4;"), NONE);
        CodedRelays x = full();
        due("faultPosition() of 100 characters", x.faultPosition(), NONE);
        due("faultPosition() of an empty text without room for links", faultOf(x, ""), NONE);
        due("clearText() after it", x.clearText(), 0);
    }

    @Says(promise = 40, value = "Carries out the entries of the text, in their order.")
    static void entriesInOrder() {
        CodedRelays x = network(10);
        write(x, "b9=4;8>9/9;0>1;b9=2;0>1/1;b1=0;");
        due("read()", x.read(), 6);
        due("links()", x.links(), 3);
        due("link(0, 0)", x.link(0, 0), 8);
        due("link(0, 1)", x.link(0, 1), 9);
        due("link(0, 2)", x.link(0, 2), 9);
        due("link(1, 2), no slash after one with a slash", x.link(1, 2), 0);
        due("link(2, 2)", x.link(2, 2), 1);
        due("the last of two behaviors", x.setBehavior(9, 0), 2);
    }

    @Says(promise = 40, value = "The text stays.")
    static void textStays() {
        CodedRelays x = network(3);
        write(x, "0>1;");
        due("read()", x.read(), 1);
        due("read() again", x.read(), 1);
        due("links()", x.links(), 2);
        due("append(48)", x.append(48), 5);
        due("read() with a fault", x.read(), NOT);
        due("clearText()", x.clearText(), 5);
    }

    @Says(promise = 40, value = "Returns the number of entries")
    static void noneToMostEntries() {
        due("read() of an empty text", new CodedRelays().read(), 0);
        CodedRelays one = new CodedRelays();
        write(one, "0>1;");
        due("read() of one", one.read(), 1);
        CodedRelays most = new CodedRelays();
        for (int i = 0; i < 20; i++) {
            write(most, "0>1;");
        }
        write(most, "b1=1;b2=2;b3=3;b4=4;");
        due("read() of as many as 100 characters hold", most.read(), 24);
        due("links()", most.links(), 20);
    }

    @Says(promise = 40, value = "NOT_POSSIBLE if the text has a fault.")
    static void readWithFault() {
        String[] faulty = {"x", "0", "0>1", "0>1;b1=4", "0>1;b3=2;0>4;", "b1=5;", "0>1;;"};
        for (String text : faulty) {
            refused(() -> {
                CodedRelays x = lively();
                x.clearText();
                write(x, text);
                return x;
            }, "read() of " + text, CodedRelays::read, NOT);
        }
        refused(() -> {
            CodedRelays x = full();
            x.clearText();
            write(x, "b2=2;0>1;");
            return x;
        }, "read() without room", CodedRelays::read, NOT);
        refused(() -> {
            CodedRelays x = network(3, 0, 1, 0);
            write(x, "0>2;");
            for (int i = 1; i < 20; i++) {
                x.read();
            }
            x.run(1);
            return x;
        }, "read() when it has filled the room itself", CodedRelays::read, NOT);
    }

    // ---- 41 and 42

    @Says(promise = 41, value = "`slot`: 0 or 1")
    static void keepRange() {
        due("keep(0)", lively().keep(0), 15);
        due("keep(1)", lively().keep(1), 15);
        refusedValues(Sentences::lively, "keep(v)", (x, v) -> x.keep(v), -1, 2, MAX);
    }

    @Says(promise = 41, value = "Keeps everything except the text and the slots")
    static void keptWithoutTextAndSlots() {
        CodedRelays x = lively();
        x.keep(1);
        x.append('x');
        x.restore(1);
        due("the text is not kept", x.clearText(), 12);
        due("nor is the other slot", x.restore(0), 12);
        CodedRelays y = lively();
        y.keep(0);
        y.run(5);
        y.keep(1);
        y.restore(0);
        due("slot 1 is not emptied by what slot 0 keeps", y.restore(1), 20);
    }

    @Says(promise = 41, value = "in place of what the slot keeps.")
    static void keptInPlace() {
        CodedRelays x = line();
        x.keep(0);
        x.run(50);
        due("keep(0) again", x.keep(0), 50);
        x.setNodes(10);
        due("restore(0)", x.restore(0), 50);
        due("nodes()", x.nodes(), 3);
        x.setPackets(2);
        x.keep(0);
        x.setPackets(8);
        x.restore(0);
        due("rank(0)", x.rank(0), 2);
        due("rank(1)", x.rank(1), 0);
    }

    @Says(promise = 41, value = "Returns the number of rounds")
    static void roundsAtKeep() {
        CodedRelays x = line();
        due("keep(0) at the beginning", x.keep(0), 0);
        x.run(50);
        x.run(50);
        due("keep(1) after 100 rounds", x.keep(1), 100);
    }

    @Says(promise = 42, value = "`slot`: 0 or 1")
    static void restoreRange() {
        CodedRelays x = line();
        x.keep(0);
        x.keep(1);
        due("restore(0)", x.restore(0), 0);
        due("restore(1)", x.restore(1), 0);
        refusedValues(Sentences::lively, "restore(v)", (y, v) -> y.restore(v), -1, 2, MAX);
        refusedValues(CodedRelays::new, "restore(v) of a new object, BAD_VALUE first", (y, v) -> y.restore(v), -1, 2, MAX);
    }

    @Says(promise = 42, value = "Makes everything except the text and the slots as it was kept.")
    static void allAsKept() {
        CodedRelays x = lively();
        x.keep(1);
        x.setNodes(10);
        x.setPackets(8);
        for (int i = 0; i < 20; i++) {
            x.addLink(i % 9, i % 9 + 1, i < 9 ? 4 : 0);
        }
        x.setBehavior(1, CodedRelays.ALTERING);
        x.setLimit(1);
        x.setState(99);
        x.run(49);
        due("all nodes have something else now", x.rank(1) + x.rank(2) + x.rank(3), 24);
        due("restore(1)", x.restore(1), 15);
        CodedRelays y = lively();
        y.keep(1);
        sameStory("all is as it was kept", x, y);
    }

    @Says(promise = 42, value = "The slot keeps it.")
    static void slotKeepsIt() {
        CodedRelays x = lively();
        x.restore(0);
        x.run(7);
        x.setNodes(3);
        due("restore(0) again", x.restore(0), 12);
        CodedRelays y = lively();
        y.restore(0);
        sameStory("the slot keeps what it kept", x, y);
    }

    @Says(promise = 42, value = "Returns the number of rounds then")
    static void roundsAtRestore() {
        CodedRelays x = line();
        x.keep(0);
        x.run(50);
        x.keep(1);
        x.run(1);
        due("restore(0)", x.restore(0), 0);
        due("rounds()", x.rounds(), 0);
        due("restore(1)", x.restore(1), 50);
        due("rounds()", x.rounds(), 50);
    }

    @Says(promise = 42, value = "NOT_POSSIBLE if the slot keeps nothing.")
    static void emptySlot() {
        refused(Sentences::lively, "restore(1)", x -> x.restore(1), NOT);
        refused(() -> {
            CodedRelays x = busy();
            x.keep(1);
            return x;
        }, "restore(0)", x -> x.restore(0), NOT);
        CodedRelays x = new CodedRelays();
        x.keep(2);
        due("restore(0) after a refused keep", x.restore(0), NOT);
        due("restore(1) after a refused keep", x.restore(1), NOT);
    }

    // ---- 43 checksum

    /** 61, then 31 times that and the next value, without bounds; at the end what a long holds of it. */
    private static long folded(long... values) {
        BigInteger h = BigInteger.valueOf(61);
        for (long value : values) {
            h = h.multiply(BigInteger.valueOf(31)).add(BigInteger.valueOf(value));
        }
        return h.longValue();
    }

    @Says(promise = 43, value = "It starts with h = 61")
    static void checksumOfNewObject() {
        due("checksum() of a new object", new CodedRelays().checksum(), folded(5, 0, 0, 1,
            4, 1, 17, 2, 34, 4, 51, 8, 68, 0, 0, 0, 0, 0, 0, 0, 0, 0, 0, 0, 0, 0, 0));
    }

    @Says(promise = 43, value = "(as longs, with overflow): nodes(), links(), rounds(), the random state")
    static void checksumOverflows() {
        CodedRelays x = network(3);
        x.setPackets(2);
        x.setState(2147483647);
        x.run(50);
        due("checksum() of the greatest state", x.checksum(), folded(3, 0, 50, 2147483647L,
            2, 1, 17, 2, 34, 0, 0, 0, 0, 0, 0, 0, 0));
        due("more values than a long holds without overflow", x.checksum() == new CodedRelays().checksum() ? 1 : 0, 0);
    }

    @Says(promise = 43, value = "for each node rank() and, for each sum that it has, its vector and its payload, then marks() and isCutOff()")
    static void checksumOfNodes() {
        CodedRelays x = network(3, 0, 1, 0, 1, 2, 0);
        x.setPackets(2);
        x.setBehavior(1, CodedRelays.SILENT);
        x.setState(stateFor(3, 2, 3, 0));
        x.run(2);
        x.setLimit(2);
        x.check(1, 1);
        x.setState(0);
        due("checksum() with a mark", x.checksum(), folded(3, 2, 2, 0,
            2, 1, 17, 2, 34, 0, 0, 2, 3, 17 ^ 34, 1, 17, 1, 0, 0, 0, 0,
            0, 2, 0, 0, 1, 2, 2, 0, 0, 0, 0, NONE, 0, 0));
        x.check(1, 1);
        due("checksum() with one cut off", x.checksum(), folded(3, 2, 2, 0,
            2, 1, 17, 2, 34, 0, 0, 2, 3, 17 ^ 34, 1, 17, 2, 1, 0, 0, 0,
            0, 2, 0, 0, 1, 2, 2, 0, 0, 0, 0, NONE, 0, 0));
    }

    @Says(promise = 43, value = "for each link fates() of all kinds, lastSent(), and endSum() of sent and of received vectors.")
    static void checksumOfLinks() {
        CodedRelays x = network(3, 0, 1, 2, 0, 2, 1);
        x.setPackets(2);
        long start = folded(3, 2, 0, 1, 2, 1, 17, 2, 34, 0, 0, 0, 0, 0, 0, 0, 0,
            0, 0, 0, 0, NONE, 0, 0, 0, 0, 0, 0, NONE, 0, 0);
        due("checksum() with nothing sent", x.checksum(), start);
        x.setState(stateFor(3, 0, 3, 2, 3, 1, 3, 2));
        x.run(2);
        x.setState(7);
        // Link 0 sent 1 and then 2, which was lost; link 1 lost 3 twice.
        due("checksum() with losses", x.checksum(), folded(3, 2, 2, 7,
            2, 1, 17, 2, 34, 0, 0, 1, 1, 17, 0, 0, 0, 0, 0,
            1, 1, 0, 0, 2, 3, 1, 2, 0, 0, 0, 3, 0, 0));
    }
}
