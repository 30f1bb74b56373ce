/**
 * What several tests need to bring a simulator to a wanted state: networks written in a line, and
 * random states from which the wanted numbers come. Tests inherit from it.
 */
abstract class Steering {
    static final int BAD = -1;
    static final int FULL = -2;
    static final int NOT = -3;
    static final int NONE = -4;

    // ---- random numbers

    static long next(long state) {
        return (state * 1103515245L + 12345L) & 0x7fffffffL;
    }

    static long after(long state, int numbers) {
        long s = state;
        for (int i = 0; i < numbers; i++) {
            s = next(s);
        }
        return s;
    }

    /** A state after which random numbers below the first, third .. are the second, fourth .. */
    static int stateFor(int... belowAndWanted) {
        for (int start = 0; start >= 0; start++) {
            long s = start;
            int i = 0;
            while (i < belowAndWanted.length) {
                s = next(s);
                if ((s >> 16) % belowAndWanted[i] != belowAndWanted[i + 1]) {
                    break;
                }
                i += 2;
            }
            if (i >= belowAndWanted.length) {
                return start;
            }
        }
        throw new IllegalStateException("no such state");
    }

    static int stateOf(CodedRelays x) {
        int state = x.setState(0);
        x.setState(state);
        return state;
    }

    // ---- networks

    static CodedRelays network(int nodes, int... fromToLoss) {
        CodedRelays x = new CodedRelays();
        x.setNodes(nodes);
        for (int i = 0; i < fromToLoss.length; i += 3) {
            x.addLink(fromToLoss[i], fromToLoss[i + 1], fromToLoss[i + 2]);
        }
        return x;
    }

    /** Runs a round in which the first random number below 15 makes the source choose this vector. */
    static int roundWith(CodedRelays x, int vector) {
        x.setState(stateFor(15, vector - 1));
        return x.run(1);
    }

    /** A generation under way: losses, sums, a mark on node 2, and node 1 cut off. */
    static CodedRelays busy() {
        return keptBusy(network(4, 0, 1, 2, 1, 2, 0, 0, 2, 0, 2, 3, 0));
    }

    static CodedRelays keptBusy(CodedRelays x) {
        x.setBehavior(1, CodedRelays.LAZY);
        x.setBehavior(2, CodedRelays.SILENT);
        x.setState(7);
        x.run(12);
        x.setLimit(1);
        x.check(1, firstSuspicion(x, 1));
        x.setLimit(5);
        x.check(2, firstSuspicion(x, 2));
        return x;
    }

    static int firstSuspicion(CodedRelays x, int relay) {
        int projection = 1;
        while (x.suspect(relay, projection) == 0) {
            projection++;
        }
        return projection;
    }

    /** Relay 1 has 1, 2 and 4 and has sent 1 alone. */
    static CodedRelays lazyRelay() {
        CodedRelays x = network(4, 0, 1, 0, 1, 2, 0);
        x.setBehavior(1, CodedRelays.LAZY);
        roundWith(x, 1);
        roundWith(x, 2);
        roundWith(x, 4);
        return x;
    }

    /** Eight packets on a way of nine links with losses, which takes about fifty rounds. */
    static CodedRelays longWay(int state) {
        CodedRelays x = network(10);
        x.setPackets(8);
        for (int i = 0; i < 9; i++) {
            x.addLink(i, i + 1, i < 5 ? 2 : 0);
        }
        x.setState(state);
        return x;
    }

    /** A state with which node 9 of the long way knows all after just so many rounds. */
    static int stateForLongWay(int wanted) {
        for (int state = 0; state < 5000; state++) {
            CodedRelays x = longWay(state);
            int rounds = 0;
            while (x.rank(9) < 8 && rounds < 60) {
                rounds++;
                x.run(1);
            }
            if (rounds == wanted) {
                return state;
            }
        }
        throw new IllegalStateException("no such state");
    }

    // ---- texts

    static void write(CodedRelays x, String text) {
        for (int i = 0; i < text.length(); i++) {
            x.append(text.charAt(i));
        }
    }

    static int faultOf(CodedRelays x, String text) {
        x.clearText();
        write(x, text);
        return x.faultPosition();
    }
}
