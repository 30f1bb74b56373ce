import java.util.Arrays;

/**
 * A simulator of relays that forward sums of packets over links with losses.
 * Sums are exclusive ors; bit i of a vector stands for packet i.
 */
public final class CodedRelays {
    public static final int BAD_VALUE = -1;
    public static final int FULL = -2;
    public static final int NOT_POSSIBLE = -3;
    public static final int NONE = -4;
    public static final int HONEST = 0, LAZY = 1, HOLDING = 2, ALTERING = 3, SILENT = 4;
    public static final int LOST = 0, NEW = 1, REDUNDANT = 2, CONFLICTING = 3;

    private static final int MIN_PACKETS = 2;
    private static final int MAX_PACKETS = 8;
    private static final int FIRST_PACKETS = 4;
    private static final int MAX_PAYLOAD = 255;
    private static final int MIN_NODES = 3;
    private static final int MAX_NODES = 10;
    private static final int FIRST_NODES = 5;
    private static final int MAX_LINKS = 20;
    private static final int MAX_LOSS = 9;
    private static final int FATES = 4;
    private static final int MAX_LIMIT = 9;
    private static final int FIRST_LIMIT = 3;
    private static final int MAX_ROUNDS = 50;
    private static final int MAX_CHECKS = 50;
    private static final int MIN_CHARACTER = 32;
    private static final int MAX_CHARACTER = 126;
    private static final int MAX_TEXT = 100;
    private static final int SLOTS = 2;

    private final Network network;
    private final Network[] slots;
    private final Ways ways;
    private final Span joined;
    private final char[] text;
    private int textLength;
    private final EntryReader reader;

    public CodedRelays() {
        network = new Network();
        slots = new Network[SLOTS];
        ways = new Ways();
        joined = new Span();
        text = new char[MAX_TEXT];
        textLength = 0;
        reader = new EntryReader();
    }

    // ---- settings

    public int setPackets(int packets) {
        if (packets < MIN_PACKETS || packets > MAX_PACKETS) {
            return BAD_VALUE;
        }
        int previous = network.packetCount;
        network.packetCount = packets;
        network.resetPayloads();
        network.beginGeneration();
        return previous;
    }

    public int setPayload(int packet, int payload) {
        if (!network.hasPacket(packet) || payload < 0 || payload > MAX_PAYLOAD) {
            return BAD_VALUE;
        }
        int previous = network.packetPayloads[packet];
        network.packetPayloads[packet] = payload;
        network.beginGeneration();
        return previous;
    }

    public int setNodes(int nodes) {
        if (nodes < MIN_NODES || nodes > MAX_NODES) {
            return BAD_VALUE;
        }
        int previous = network.nodeCount;
        network.nodeCount = nodes;
        network.linkCount = 0;
        network.makeAllHonest();
        network.beginGeneration();
        return previous;
    }

    public int addLink(int from, int to, int loss) {
        if (!network.hasNode(from) || !network.hasNode(to) || to <= from) {
            return BAD_VALUE;
        }
        if (loss < 0 || loss > MAX_LOSS) {
            return BAD_VALUE;
        }
        if (network.linkCount >= MAX_LINKS) {
            return FULL;
        }
        network.putLink(from, to, loss);
        network.beginGeneration();
        return network.linkCount - 1;
    }

    public int removeLink() {
        if (network.linkCount <= 0) {
            return NOT_POSSIBLE;
        }
        network.linkCount--;
        network.beginGeneration();
        return network.linkCount;
    }

    public int setBehavior(int node, int behavior) {
        if (!network.hasReceiver(node) || behavior < HONEST || behavior > SILENT) {
            return BAD_VALUE;
        }
        int previous = network.nodes[node].behavior;
        network.nodes[node].behavior = behavior;
        network.beginGeneration();
        return previous;
    }

    public int setState(int state) {
        if (state < 0) {
            return BAD_VALUE;
        }
        int previous = (int) network.state;
        network.state = state;
        return previous;
    }

    public int setLimit(int marks) {
        if (marks < 1 || marks > MAX_LIMIT) {
            return BAD_VALUE;
        }
        int previous = network.limit;
        network.limit = marks;
        return previous;
    }

    // ---- rounds

    public int run(int rounds) {
        if (rounds < 1 || rounds > MAX_ROUNDS) {
            return BAD_VALUE;
        }
        int accepted = 0;
        for (int i = 0; i < rounds; i++) {
            accepted += network.playRound();
        }
        return accepted;
    }

    public int runUntil(int node) {
        if (!network.hasNode(node)) {
            return BAD_VALUE;
        }
        for (int played = 0; played < MAX_ROUNDS; played++) {
            if (network.knowsAll(node)) {
                return played;
            }
            network.playRound();
        }
        return network.knowsAll(node) ? MAX_ROUNDS : NONE;
    }

    public int rounds() {
        return network.roundCount;
    }

    // ---- what there is

    public int nodes() {
        return network.nodeCount;
    }

    public int links() {
        return network.linkCount;
    }

    public int link(int link, int what) {
        if (!network.hasLink(link) || what < 0 || what > 2) {
            return BAD_VALUE;
        }
        Link asked = network.links[link];
        if (what == 0) {
            return asked.from;
        }
        return what == 1 ? asked.to : asked.loss;
    }

    public int rank(int node) {
        if (!network.hasNode(node)) {
            return BAD_VALUE;
        }
        return network.nodes[node].held.size;
    }

    public int vector(int node, int index) {
        if (!network.hasSum(node, index)) {
            return BAD_VALUE;
        }
        return network.nodes[node].vectors[index];
    }

    public int payload(int node, int index) {
        if (!network.hasSum(node, index)) {
            return BAD_VALUE;
        }
        return network.nodes[node].payloads[index];
    }

    public int fates(int link, int fate) {
        if (!network.hasLink(link) || fate < LOST || fate > CONFLICTING) {
            return BAD_VALUE;
        }
        return network.links[link].fateCounts[fate];
    }

    public int lastSent(int link) {
        if (!network.hasLink(link)) {
            return BAD_VALUE;
        }
        return network.links[link].lastVector;
    }

    public int endSum(int link, boolean received) {
        if (!network.hasLink(link)) {
            return BAD_VALUE;
        }
        Link asked = network.links[link];
        return received ? asked.receivedSum : asked.sentSum;
    }

    public int differing() {
        int count = 0;
        for (int i = 0; i < network.linkCount; i++) {
            if (network.links[i].sentSum != network.links[i].receivedSum) {
                count++;
            }
        }
        return count;
    }

    // ---- solving

    public int knows(int node) {
        if (!network.hasNode(node)) {
            return BAD_VALUE;
        }
        int known = 0;
        for (int packet = 0; packet < network.packetCount; packet++) {
            if (network.nodes[node].solved(packet) != NONE) {
                known |= 1 << packet;
            }
        }
        return known;
    }

    public int solve(int node, int packet) {
        if (!network.hasNode(node) || !network.hasPacket(packet)) {
            return BAD_VALUE;
        }
        return network.nodes[node].solved(packet);
    }

    public int wrong() {
        int count = 0;
        for (int node = 1; node < network.nodeCount; node++) {
            for (int packet = 0; packet < network.packetCount; packet++) {
                int solved = network.nodes[node].solved(packet);
                if (solved != NONE && solved != network.packetPayloads[packet]) {
                    count++;
                }
            }
        }
        return count;
    }

    public int combination(int node, int vector) {
        if (!network.hasNode(node) || vector < 0 || vector > network.allPackets()) {
            return BAD_VALUE;
        }
        return network.nodes[node].held.partsOf(vector);
    }

    public int commonRank(int node, int other) {
        if (!network.hasNode(node) || !network.hasNode(other)) {
            return BAD_VALUE;
        }
        Span one = network.nodes[node].held;
        Span two = network.nodes[other].held;
        // What two spans share has the rank by which the rank of their join falls short.
        joined.copyFrom(one);
        joined.addAll(two);
        return one.size + two.size - joined.size;
    }

    // ---- checks

    public int suspect(int relay, int projection) {
        if (!network.hasRelay(relay) || !network.hasProjection(projection)) {
            return BAD_VALUE;
        }
        return network.nodes[relay].withholds(projection) ? 1 : 0;
    }

    public int suspicions(int relay) {
        if (!network.hasRelay(relay)) {
            return BAD_VALUE;
        }
        int count = 0;
        for (int projection = 1; projection <= network.allPackets(); projection++) {
            if (network.nodes[relay].withholds(projection)) {
                count++;
            }
        }
        return count;
    }

    public int check(int relay, int projection) {
        if (!network.hasRelay(relay) || !network.hasProjection(projection)) {
            return BAD_VALUE;
        }
        if (network.nodes[relay].cutOff) {
            return NOT_POSSIBLE;
        }
        network.spotCheck(relay, projection);
        return network.nodes[relay].markCount;
    }

    public int checkRandomly(int checks) {
        if (checks < 1 || checks > MAX_CHECKS) {
            return BAD_VALUE;
        }
        int failed = 0;
        for (int i = 0; i < checks; i++) {
            if (network.randomSpotCheck()) {
                failed++;
            }
        }
        return failed;
    }

    public int marks(int node) {
        if (!network.hasNode(node)) {
            return BAD_VALUE;
        }
        return network.nodes[node].markCount;
    }

    public int isCutOff(int node) {
        if (!network.hasNode(node)) {
            return BAD_VALUE;
        }
        return network.nodes[node].cutOff ? 1 : 0;
    }

    public int sentRank(int relay) {
        if (!network.hasRelay(relay)) {
            return BAD_VALUE;
        }
        return network.nodes[relay].sent.size;
    }

    // ---- flows

    public int flow(int node) {
        if (!network.hasReceiver(node)) {
            return BAD_VALUE;
        }
        return ways.findAll(network, node);
    }

    public int neededLink(int node) {
        if (!network.hasReceiver(node)) {
            return BAD_VALUE;
        }
        if (ways.findAll(network, node) == 0) {
            return NONE;
        }
        return ways.firstWithoutDetour(network);
    }

    // ---- texts

    public int append(int character) {
        if (character < MIN_CHARACTER || character > MAX_CHARACTER) {
            return BAD_VALUE;
        }
        if (textLength >= MAX_TEXT) {
            return FULL;
        }
        text[textLength] = (char) character;
        textLength++;
        return textLength;
    }

    public int clearText() {
        int previous = textLength;
        textLength = 0;
        return previous;
    }

    public int faultPosition() {
        reader.begin(network.nodeCount, network.linkCount);
        for (int i = 0; i < textLength; i++) {
            if (!reader.take(text[i])) {
                return i;
            }
        }
        return reader.isBetweenEntries() ? NONE : textLength;
    }

    public int read() {
        if (faultPosition() != NONE) {
            return NOT_POSSIBLE;
        }
        int entries = 0;
        reader.begin(network.nodeCount, network.linkCount);
        for (int i = 0; i < textLength; i++) {
            reader.take(text[i]);
            if (reader.isBetweenEntries()) {
                carryOutEntry();
                entries++;
            }
        }
        network.beginGeneration();
        return entries;
    }

    private void carryOutEntry() {
        if (reader.isLink) {
            network.putLink(reader.first, reader.second, reader.loss);
        } else if (network.hasReceiver(reader.first)) {
            network.nodes[reader.first].behavior = reader.behavior;
        }
    }

    // ---- slots, checksum

    public int keep(int slot) {
        if (slot < 0 || slot >= SLOTS) {
            return BAD_VALUE;
        }
        if (slots[slot] == null) {
            slots[slot] = new Network();
        }
        slots[slot].copyFrom(network);
        return network.roundCount;
    }

    public int restore(int slot) {
        if (slot < 0 || slot >= SLOTS) {
            return BAD_VALUE;
        }
        if (slots[slot] == null) {
            return NOT_POSSIBLE;
        }
        network.copyFrom(slots[slot]);
        return network.roundCount;
    }

    public long checksum() {
        long hash = 61;
        hash = 31 * hash + network.nodeCount;
        hash = 31 * hash + network.linkCount;
        hash = 31 * hash + network.roundCount;
        hash = 31 * hash + network.state;
        for (int i = 0; i < network.nodeCount; i++) {
            hash = network.nodes[i].mixInto(hash);
        }
        for (int i = 0; i < network.linkCount; i++) {
            hash = network.links[i].mixInto(hash);
        }
        return hash;
    }

    /** All sums of the vectors that were added, with the way in which each of them comes about. */
    private static final class Span {
        // leads[b] is a sum whose highest bit is b, or 0; leadParts[b] tells of which added vectors.
        private final int[] leads;
        private final int[] leadParts;
        private int size;

        Span() {
            leads = new int[MAX_PACKETS];
            leadParts = new int[MAX_PACKETS];
            size = 0;
        }

        void clear() {
            Arrays.fill(leads, 0);
            Arrays.fill(leadParts, 0);
            size = 0;
        }

        void copyFrom(Span other) {
            System.arraycopy(other.leads, 0, leads, 0, MAX_PACKETS);
            System.arraycopy(other.leadParts, 0, leadParts, 0, MAX_PACKETS);
            size = other.size;
        }

        /** Adds a vector, unless it is a sum of the added ones already. */
        void add(int vector) {
            int rest = vector;
            int parts = 1 << size;
            for (int bit = MAX_PACKETS - 1; bit >= 0; bit--) {
                if ((rest >> bit & 1) == 0) {
                    continue;
                }
                if (leads[bit] == 0) {
                    leads[bit] = rest;
                    leadParts[bit] = parts;
                    size++;
                    return;
                }
                rest ^= leads[bit];
                parts ^= leadParts[bit];
            }
        }

        void addAll(Span other) {
            for (int bit = 0; bit < MAX_PACKETS; bit++) {
                add(other.leads[bit]);
            }
        }

        /** The set of the added vectors with this sum, bit i for the i-th one; NONE without one. */
        int partsOf(int vector) {
            int rest = vector;
            int parts = 0;
            for (int bit = MAX_PACKETS - 1; bit >= 0; bit--) {
                if ((rest >> bit & 1) == 0) {
                    continue;
                }
                if (leads[bit] == 0) {
                    return NONE;
                }
                rest ^= leads[bit];
                parts ^= leadParts[bit];
            }
            return parts;
        }

        /** Whether an added vector is odd; since sums of even ones are even, the leads tell. */
        boolean hasOdd(int projection) {
            for (int bit = 0; bit < MAX_PACKETS; bit++) {
                if ((Integer.bitCount(leads[bit] & projection) & 1) == 1) {
                    return true;
                }
            }
            return false;
        }
    }

    /** A node with the sums that it has accepted, and the span of the vectors that it has sent. */
    private static final class Node {
        private final Span held;
        private final Span sent;
        private final int[] vectors;
        private final int[] payloads;
        private int behavior;
        private int markCount;
        private boolean cutOff;

        Node() {
            held = new Span();
            sent = new Span();
            vectors = new int[MAX_PACKETS];
            payloads = new int[MAX_PACKETS];
            behavior = HONEST;
            markCount = 0;
            cutOff = false;
        }

        void forget() {
            held.clear();
            sent.clear();
            markCount = 0;
            cutOff = false;
        }

        void copyFrom(Node other) {
            held.copyFrom(other.held);
            sent.copyFrom(other.sent);
            System.arraycopy(other.vectors, 0, vectors, 0, MAX_PACKETS);
            System.arraycopy(other.payloads, 0, payloads, 0, MAX_PACKETS);
            behavior = other.behavior;
            markCount = other.markCount;
            cutOff = other.cutOff;
        }

        int fateOf(int vector, int payload) {
            int parts = held.partsOf(vector);
            if (parts == NONE) {
                return NEW;
            }
            return payloadOf(parts) == payload ? REDUNDANT : CONFLICTING;
        }

        /** Accepts a sum that is new to the node. */
        void accept(int vector, int payload) {
            int index = held.size;
            if (index >= MAX_PACKETS) {
                return;
            }
            vectors[index] = vector;
            payloads[index] = payload;
            held.add(vector);
        }

        int vectorOf(int parts) {
            return sumOf(vectors, parts);
        }

        int payloadOf(int parts) {
            return sumOf(payloads, parts);
        }

        private int sumOf(int[] values, int parts) {
            int sum = 0;
            for (int i = 0; i < held.size && i < values.length; i++) {
                if ((parts >> i & 1) == 1) {
                    sum ^= values[i];
                }
            }
            return sum;
        }

        /** The payload of a packet for this node; NONE if it does not know the packet. */
        int solved(int packet) {
            int parts = held.partsOf(1 << packet);
            return parts == NONE ? NONE : payloadOf(parts);
        }

        boolean withholds(int projection) {
            return held.hasOdd(projection) && !sent.hasOdd(projection);
        }

        long mixInto(long start) {
            long hash = 31 * start + held.size;
            for (int i = 0; i < held.size && i < MAX_PACKETS; i++) {
                hash = 31 * hash + vectors[i];
                hash = 31 * hash + payloads[i];
            }
            hash = 31 * hash + markCount;
            return 31 * hash + (cutOff ? 1 : 0);
        }
    }

    /** A link with what has been sent over it in this generation. */
    private static final class Link {
        private int from;
        private int to;
        private int loss;
        private final int[] fateCounts;
        private int sentCount;
        private int lastVector;
        private int lastPayload;
        private int sentSum;
        private int receivedSum;
        // Set only within a round: the last sum has been sent, not lost and not yet received.
        private boolean arriving;

        Link() {
            from = 0;
            to = 0;
            loss = 0;
            fateCounts = new int[FATES];
            forget();
        }

        void forget() {
            Arrays.fill(fateCounts, 0);
            sentCount = 0;
            lastVector = NONE;
            lastPayload = 0;
            sentSum = 0;
            receivedSum = 0;
            arriving = false;
        }

        void copyFrom(Link other) {
            from = other.from;
            to = other.to;
            loss = other.loss;
            System.arraycopy(other.fateCounts, 0, fateCounts, 0, FATES);
            sentCount = other.sentCount;
            lastVector = other.lastVector;
            lastPayload = other.lastPayload;
            sentSum = other.sentSum;
            receivedSum = other.receivedSum;
            arriving = other.arriving;
        }

        void carry(int vector, int payload) {
            lastVector = vector;
            lastPayload = payload;
            sentSum ^= vector;
            sentCount++;
            arriving = loss <= 0 || sentCount % loss != 0;
            if (!arriving) {
                fateCounts[LOST]++;
            }
        }

        /** Hands the arriving sum, if there is one, to the receiver; tells whether it is accepted. */
        boolean deliver(Node receiver) {
            if (!arriving) {
                return false;
            }
            arriving = false;
            receivedSum ^= lastVector;
            int fate = receiver.fateOf(lastVector, lastPayload);
            fateCounts[fate]++;
            if (fate != NEW) {
                return false;
            }
            receiver.accept(lastVector, lastPayload);
            return true;
        }

        long mixInto(long start) {
            long hash = start;
            for (int fate = 0; fate < FATES; fate++) {
                hash = 31 * hash + fateCounts[fate];
            }
            hash = 31 * hash + lastVector;
            hash = 31 * hash + sentSum;
            return 31 * hash + receivedSum;
        }
    }

    /** Everything that a slot keeps. */
    private static final class Network {
        private int packetCount;
        private final int[] packetPayloads;
        private int nodeCount;
        private final Node[] nodes;
        private int linkCount;
        private final Link[] links;
        private long state;
        private int limit;
        private int roundCount;

        Network() {
            packetCount = FIRST_PACKETS;
            packetPayloads = new int[MAX_PACKETS];
            nodeCount = FIRST_NODES;
            nodes = new Node[MAX_NODES];
            for (int i = 0; i < MAX_NODES; i++) {
                nodes[i] = new Node();
            }
            linkCount = 0;
            links = new Link[MAX_LINKS];
            for (int i = 0; i < MAX_LINKS; i++) {
                links[i] = new Link();
            }
            state = 1;
            limit = FIRST_LIMIT;
            resetPayloads();
            beginGeneration();
        }

        void copyFrom(Network other) {
            packetCount = other.packetCount;
            System.arraycopy(other.packetPayloads, 0, packetPayloads, 0, MAX_PACKETS);
            nodeCount = other.nodeCount;
            for (int i = 0; i < MAX_NODES; i++) {
                nodes[i].copyFrom(other.nodes[i]);
            }
            linkCount = other.linkCount;
            for (int i = 0; i < MAX_LINKS; i++) {
                links[i].copyFrom(other.links[i]);
            }
            state = other.state;
            limit = other.limit;
            roundCount = other.roundCount;
        }

        void resetPayloads() {
            for (int i = 0; i < MAX_PACKETS; i++) {
                packetPayloads[i] = 17 * (i + 1);
            }
        }

        void makeAllHonest() {
            for (int i = 0; i < MAX_NODES; i++) {
                nodes[i].behavior = HONEST;
            }
        }

        void beginGeneration() {
            for (int i = 0; i < MAX_NODES; i++) {
                nodes[i].forget();
            }
            for (int i = 0; i < MAX_LINKS; i++) {
                links[i].forget();
            }
            // The source has the packets as its sums, so that it needs no cases of its own.
            for (int i = 0; i < packetCount; i++) {
                nodes[0].accept(1 << i, packetPayloads[i]);
            }
            roundCount = 0;
        }

        void putLink(int from, int to, int loss) {
            if (linkCount >= MAX_LINKS) {
                return;
            }
            Link link = links[linkCount];
            link.from = from;
            link.to = to;
            link.loss = loss;
            linkCount++;
        }

        // -- what exists

        boolean hasPacket(int packet) {
            return packet >= 0 && packet < packetCount;
        }

        boolean hasNode(int node) {
            return node >= 0 && node < nodeCount;
        }

        boolean hasReceiver(int node) {
            return node > 0 && node < nodeCount;
        }

        boolean hasRelay(int node) {
            if (!hasReceiver(node)) {
                return false;
            }
            for (int i = 0; i < linkCount; i++) {
                if (links[i].from == node) {
                    return true;
                }
            }
            return false;
        }

        boolean hasLink(int link) {
            return link >= 0 && link < linkCount;
        }

        boolean hasSum(int node, int index) {
            return hasNode(node) && index >= 0 && index < nodes[node].held.size;
        }

        boolean hasProjection(int projection) {
            return projection >= 1 && projection <= allPackets();
        }

        boolean isOpen(Link link) {
            return !nodes[link.from].cutOff && !nodes[link.to].cutOff;
        }

        /** The vector of all packets; it is also the number of projections. */
        int allPackets() {
            return (1 << packetCount) - 1;
        }

        boolean knowsAll(int node) {
            return nodes[node].held.size == packetCount;
        }

        // -- random numbers

        int random(int below) {
            state = (state * 1103515245L + 12345L) % 2147483648L;
            if (below <= 0) {
                return 0;
            }
            return (int) (state / 65536L % below);
        }

        int chooseAmong(int sums) {
            return random((1 << sums) - 1) + 1;
        }

        // -- rounds

        /** Plays a round; all is sent before anything is received. Counts the accepted sums. */
        int playRound() {
            for (int i = 0; i < nodeCount; i++) {
                sendFrom(i);
            }
            int accepted = 0;
            for (int i = 0; i < linkCount; i++) {
                if (links[i].deliver(nodes[links[i].to])) {
                    accepted++;
                }
            }
            roundCount++;
            return accepted;
        }

        void sendFrom(int node) {
            Node sender = nodes[node];
            if (sender.held.size == 0 || sender.behavior == SILENT) {
                return;
            }
            int change = sender.behavior == ALTERING ? 1 : 0;
            for (int i = 0; i < linkCount; i++) {
                Link link = links[i];
                if (link.from != node || !isOpen(link)) {
                    continue;
                }
                int parts = partsToSend(sender);
                int vector = sender.vectorOf(parts);
                link.carry(vector, sender.payloadOf(parts) ^ change);
                sender.sent.add(vector);
            }
        }

        int partsToSend(Node sender) {
            if (sender.behavior == LAZY) {
                return 1;
            }
            if (sender.behavior == HOLDING) {
                return chooseAmong((sender.held.size + 1) / 2);
            }
            return chooseAmong(sender.held.size);
        }

        // -- checks

        /** Checks a relay; tells whether it was suspect. */
        boolean spotCheck(int relay, int projection) {
            Node checked = nodes[relay];
            if (!checked.withholds(projection)) {
                return false;
            }
            checked.markCount++;
            if (checked.markCount >= limit) {
                checked.cutOff = true;
            }
            return true;
        }

        boolean randomSpotCheck() {
            int candidates = 0;
            for (int i = 1; i < nodeCount; i++) {
                if (isCheckable(i)) {
                    candidates++;
                }
            }
            if (candidates == 0) {
                return false;
            }
            int before = random(candidates);
            int projection = random(allPackets()) + 1;
            for (int i = 1; i < nodeCount; i++) {
                if (!isCheckable(i)) {
                    continue;
                }
                if (before == 0) {
                    return spotCheck(i, projection);
                }
                before--;
            }
            return false;
        }

        boolean isCheckable(int node) {
            return hasRelay(node) && !nodes[node].cutOff;
        }
    }

    /** Finds ways over open links from the source to a node, no two with a link in common. */
    private static final class Ways {
        private final boolean[] used;
        private final boolean[] reached;
        private final int[] reachedBy;

        Ways() {
            used = new boolean[MAX_LINKS];
            reached = new boolean[MAX_NODES];
            reachedBy = new int[MAX_NODES];
        }

        /** Finds as many ways as there can be, and returns their number. */
        int findAll(Network network, int target) {
            for (int i = 0; i < MAX_LINKS; i++) {
                used[i] = false;
            }
            for (int found = 0; found < MAX_LINKS; found++) {
                search(network, 0);
                if (!reached[target]) {
                    return found;
                }
                turnBackFrom(network, target);
            }
            return MAX_LINKS;
        }

        /**
         * The lowest used link from whose beginning no detour leads to its end; NONE without one.
         * With a detour the way over the link could take that instead, so the link is not needed;
         * nor is one that no way uses.
         */
        int firstWithoutDetour(Network network) {
            for (int i = 0; i < network.linkCount; i++) {
                if (!used[i]) {
                    continue;
                }
                search(network, network.links[i].from);
                if (!reached[network.links[i].to]) {
                    return i;
                }
            }
            return NONE;
        }

        /** Reaches what can be reached over unused links forwards and over used ones backwards. */
        private void search(Network network, int start) {
            for (int i = 0; i < MAX_NODES; i++) {
                reached[i] = i == start;
                reachedBy[i] = NONE;
            }
            boolean grown = true;
            for (int sweep = 0; sweep < MAX_NODES && grown; sweep++) {
                grown = false;
                for (int i = 0; i < network.linkCount; i++) {
                    if (network.isOpen(network.links[i]) && reachOver(network.links[i], i)) {
                        grown = true;
                    }
                }
            }
        }

        private boolean reachOver(Link link, int number) {
            int near = used[number] ? link.to : link.from;
            int far = used[number] ? link.from : link.to;
            if (!reached[near] || reached[far]) {
                return false;
            }
            reached[far] = true;
            reachedBy[far] = number;
            return true;
        }

        /** Goes back from the target to the source; what was reached over a used link frees it. */
        private void turnBackFrom(Network network, int target) {
            int node = target;
            for (int step = 0; step < MAX_NODES && node != 0; step++) {
                int number = reachedBy[node];
                if (!network.hasLink(number)) {
                    return;
                }
                Link link = network.links[number];
                node = used[number] ? link.to : link.from;
                used[number] = !used[number];
            }
        }
    }

    /** Takes a text character by character, and holds the entry that it has taken last. */
    private static final class EntryReader {
        private static final int AT_ENTRY = 0;
        private static final int AT_ARROW = 1;
        private static final int AT_SECOND = 2;
        private static final int AT_SLASH_OR_END = 3;
        private static final int AT_LOSS = 4;
        private static final int AT_END = 5;
        private static final int AT_BEHAVING_NODE = 6;
        private static final int AT_EQUALS = 7;
        private static final int AT_BEHAVIOR = 8;

        private int place;
        private int nodeCount;
        private int linkCount;
        private boolean isLink;
        private int first;
        private int second;
        private int loss;
        private int behavior;

        void begin(int nodesThere, int linksThere) {
            place = AT_ENTRY;
            nodeCount = nodesThere;
            linkCount = linksThere;
        }

        boolean isBetweenEntries() {
            return place == AT_ENTRY;
        }

        /** Takes a character; false if it cannot follow those before it. */
        boolean take(char character) {
            switch (place) {
                case AT_ENTRY:
                    return takeBeginning(character);
                case AT_ARROW:
                    return goOn(character == '>', AT_SECOND);
                case AT_SECOND:
                    second = digit(character);
                    return goOn(second > first && second < nodeCount, AT_SLASH_OR_END);
                case AT_SLASH_OR_END:
                    if (character == '/') {
                        return goOn(true, AT_LOSS);
                    }
                    return goOn(character == ';', AT_ENTRY);
                case AT_LOSS:
                    loss = digit(character);
                    return goOn(loss >= 0, AT_END);
                case AT_END:
                    return goOn(character == ';', AT_ENTRY);
                case AT_BEHAVING_NODE:
                    first = digit(character);
                    return goOn(first > 0 && first < nodeCount, AT_EQUALS);
                case AT_EQUALS:
                    return goOn(character == '=', AT_BEHAVIOR);
                case AT_BEHAVIOR:
                    behavior = digit(character);
                    return goOn(behavior >= HONEST && behavior <= SILENT, AT_END);
                default:
                    return false;
            }
        }

        private boolean takeBeginning(char character) {
            isLink = character != 'b';
            if (!isLink) {
                return goOn(true, AT_BEHAVING_NODE);
            }
            first = digit(character);
            loss = 0;
            if (first < 0 || first >= nodeCount || linkCount >= MAX_LINKS) {
                return false;
            }
            linkCount++;
            return goOn(true, AT_ARROW);
        }

        private boolean goOn(boolean fits, int next) {
            if (fits) {
                place = next;
            }
            return fits;
        }

        private static int digit(char character) {
            return character >= '0' && character <= '9' ? character - '0' : -1;
        }
    }
}
