/** Watches three processes that send each other messages, and the cuts in which they may be good at once. */
public final class CutWatch {
    private static final int PROCESSES = 3;
    private static final int MOST_EVENTS = 8;
    private static final int STATES = MOST_EVENTS + 1;
    private static final int ALL_STATES = PROCESSES * STATES;
    private static final int ALL_KNOWN = ALL_STATES * PROCESSES;
    private static final int MOST_MESSAGES = PROCESSES * MOST_EVENTS;
    private static final int ALL_CUTS = STATES * STATES * STATES;
    private static final int ALL_PROCESSES = 7;
    private static final int REFUSED = -1;

    private final int[] eventCount = new int[PROCESSES];
    private final boolean[] goodState = new boolean[ALL_STATES];
    private final int[] known = new int[ALL_KNOWN];

    private int messageCount = 0;
    private final int[] messageSender = new int[MOST_MESSAGES];
    private final int[] messageEvent = new int[MOST_MESSAGES];
    private final boolean[] messageReceived = new boolean[MOST_MESSAGES];

    // Scratch of definitely alone: it is here because a method may not make an array.
    private final boolean[] avoided = new boolean[ALL_CUTS];

    public CutWatch() {
    }

    public int start(int process, boolean good) {
        if (!isProcess(process)) {
            return REFUSED;
        }
        goodState[stateIndex(process, 0)] = good;
        return 0;
    }

    public int step(int process, boolean good) {
        if (!mayHaveEvent(process)) {
            return REFUSED;
        }
        addEvent(process, good);
        return eventCount[process];
    }

    public int send(int process, boolean good) {
        // Every message takes an event, so the messages run out no sooner than the events.
        if (!mayHaveEvent(process) || messageCount >= MOST_MESSAGES) {
            return REFUSED;
        }
        addEvent(process, good);
        int message = messageCount;
        messageSender[message] = process;
        messageEvent[message] = eventCount[process];
        messageCount = message + 1;
        return message;
    }

    public int receive(int process, int message, boolean good) {
        if (!mayHaveEvent(process) || !mayReceive(process, message)) {
            return REFUSED;
        }
        addEvent(process, good);
        learn(process, message);
        messageReceived[message] = true;
        return eventCount[process];
    }

    public int knows(int process, int k, int q) {
        if (!isProcess(process) || !isProcess(q) || k < 0 || k > eventCount[process]) {
            return REFUSED;
        }
        return known[knownIndex(process, k, q)];
    }

    public int possibly(int set) {
        if (!isSet(set)) {
            return REFUSED;
        }
        return lowestState(set, 0) >= 0 ? 1 : 0;
    }

    public int least(int set, int process) {
        if (!isSet(set) || !isProcess(process)) {
            return REFUSED;
        }
        return lowestState(set, process);
    }

    public int definitely(int set) {
        if (!isSet(set)) {
            return REFUSED;
        }
        markAvoided(set);
        return avoided[cutIndex(eventCount[0], eventCount[1], eventCount[2])] ? 0 : 1;
    }

    public int cuts() {
        int count = 0;
        for (int k0 = 0; k0 <= eventCount[0]; k0++) {
            for (int k1 = 0; k1 <= eventCount[1]; k1++) {
                for (int k2 = 0; k2 <= eventCount[2]; k2++) {
                    if (isPossible(k0, k1, k2)) {
                        count++;
                    }
                }
            }
        }
        return count;
    }

    public int events(int process) {
        if (!isProcess(process)) {
            return REFUSED;
        }
        return eventCount[process];
    }

    private static boolean isProcess(int process) {
        return process >= 0 && process < PROCESSES;
    }

    private static boolean isSet(int set) {
        return set >= 1 && set <= ALL_PROCESSES;
    }

    private static int stateIndex(int process, int k) {
        return process * STATES + k;
    }

    private static int knownIndex(int process, int k, int q) {
        return (process * STATES + k) * PROCESSES + q;
    }

    private static int cutIndex(int k0, int k1, int k2) {
        return (k0 * STATES + k1) * STATES + k2;
    }

    private boolean mayHaveEvent(int process) {
        return isProcess(process) && eventCount[process] < MOST_EVENTS;
    }

    private boolean mayReceive(int process, int message) {
        return message >= 0 && message < messageCount
            && !messageReceived[message] && messageSender[message] != process;
    }

    private void addEvent(int process, boolean good) {
        int k = eventCount[process] + 1;
        for (int q = 0; q < PROCESSES; q++) {
            known[knownIndex(process, k, q)] = known[knownIndex(process, k - 1, q)];
        }
        known[knownIndex(process, k, process)] = k;
        goodState[stateIndex(process, k)] = good;
        eventCount[process] = k;
    }

    // No one knows more of the receiver than the receiver itself, so it need not be left out here.
    private void learn(int process, int message) {
        int k = eventCount[process];
        int sender = messageSender[message];
        int sent = messageEvent[message];
        for (int q = 0; q < PROCESSES; q++) {
            int heard = known[knownIndex(sender, sent, q)];
            int own = knownIndex(process, k, q);
            if (heard > known[own]) {
                known[own] = heard;
            }
        }
    }

    private boolean isPossible(int k0, int k1, int k2) {
        return knowsNoMore(0, k0, k0, k1, k2)
            && knowsNoMore(1, k1, k0, k1, k2)
            && knowsNoMore(2, k2, k0, k1, k2);
    }

    // Of itself a process in state k knows just k events, so it need not be left out of its own row.
    private boolean knowsNoMore(int process, int k, int k0, int k1, int k2) {
        int row = knownIndex(process, k, 0);
        return known[row] <= k0 && known[row + 1] <= k1 && known[row + 2] <= k2;
    }

    private boolean isGood(int set, int k0, int k1, int k2) {
        return ((set & 1) == 0 || goodState[stateIndex(0, k0)])
            && ((set & 2) == 0 || goodState[stateIndex(1, k1)])
            && ((set & 4) == 0 || goodState[stateIndex(2, k2)]);
    }

    // The least cut has each process's lowest state over all possible good cuts, so one process can be asked alone.
    private int lowestState(int set, int process) {
        int lowest = REFUSED;
        for (int k0 = 0; k0 <= eventCount[0]; k0++) {
            for (int k1 = 0; k1 <= eventCount[1]; k1++) {
                for (int k2 = 0; k2 <= eventCount[2]; k2++) {
                    int state = process == 0 ? k0 : process == 1 ? k1 : k2;
                    boolean lower = lowest < 0 || state < lowest;
                    if (lower && isGood(set, k0, k1, k2) && isPossible(k0, k1, k2)) {
                        lowest = state;
                    }
                }
            }
        }
        return lowest;
    }

    // Marks the cuts that a run can come to without a good cut up to there; a cut comes after all it can follow.
    private void markAvoided(int set) {
        for (int k0 = 0; k0 <= eventCount[0]; k0++) {
            for (int k1 = 0; k1 <= eventCount[1]; k1++) {
                for (int k2 = 0; k2 <= eventCount[2]; k2++) {
                    avoided[cutIndex(k0, k1, k2)] = isPossible(k0, k1, k2)
                        && !isGood(set, k0, k1, k2) && followsAvoided(k0, k1, k2);
                }
            }
        }
    }

    private boolean followsAvoided(int k0, int k1, int k2) {
        return k0 + k1 + k2 == 0
            || k0 > 0 && avoided[cutIndex(k0 - 1, k1, k2)]
            || k1 > 0 && avoided[cutIndex(k0, k1 - 1, k2)]
            || k2 > 0 && avoided[cutIndex(k0, k1, k2 - 1)];
    }
}
