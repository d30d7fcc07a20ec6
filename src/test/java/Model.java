import java.util.ArrayList;
import java.util.HashMap;
import java.util.List;
import java.util.Map;

/** The document's words taken one by one, without regard to speed, to compare CutWatch with. */
final class Model {
    private record Event(int received, boolean good) {
    }

    private record Message(int sender, int event) {
    }

    private final boolean[] startGood = new boolean[3];
    private final List<List<Event>> rows = List.of(new ArrayList<>(), new ArrayList<>(), new ArrayList<>());
    private final List<Message> sent = new ArrayList<>();
    private final List<Integer> taken = new ArrayList<>();

    int start(int process, boolean good) {
        if (outside(process)) {
            return -1;
        }
        startGood[process] = good;
        return 0;
    }

    int step(int process, boolean good) {
        if (outside(process) || events(process) == 8) {
            return -1;
        }
        rows.get(process).add(new Event(-1, good));
        return events(process);
    }

    int send(int process, boolean good) {
        if (outside(process) || events(process) == 8) {
            return -1;
        }
        rows.get(process).add(new Event(-1, good));
        sent.add(new Message(process, events(process)));
        return sent.size() - 1;
    }

    int receive(int process, int message, boolean good) {
        if (outside(process) || events(process) == 8 || message < 0 || message >= sent.size()
            || taken.contains(message) || sent.get(message).sender() == process) {
            return -1;
        }
        taken.add(message);
        rows.get(process).add(new Event(message, good));
        return events(process);
    }

    int knows(int process, int k, int q) {
        if (outside(process) || outside(q) || k < 0 || k > events(process)) {
            return -1;
        }
        if (q == process) {
            return k;
        }
        if (k == 0) {
            return 0;
        }
        int before = knows(process, k - 1, q);
        int received = rows.get(process).get(k - 1).received();
        if (received < 0) {
            return before;
        }
        Message message = sent.get(received);
        return Math.max(before, knows(message.sender(), message.event(), q));
    }

    int possibly(int set) {
        if (set < 1 || set > 7) {
            return -1;
        }
        return goodCuts(set).isEmpty() ? 0 : 1;
    }

    int least(int set, int process) {
        if (set < 1 || set > 7 || outside(process)) {
            return -1;
        }
        List<int[]> good = goodCuts(set);
        for (int[] cut : good) {
            boolean below = true;
            for (int[] other : good) {
                below = below && cut[0] <= other[0] && cut[1] <= other[1] && cut[2] <= other[2];
            }
            if (below) {
                return cut[process];
            }
        }
        if (!good.isEmpty()) {
            throw new IllegalStateException("good cuts without a least one");
        }
        return -1;
    }

    int definitely(int set) {
        if (set < 1 || set > 7) {
            return -1;
        }
        return everyRunOnFrom(new int[3], set, new HashMap<>()) ? 1 : 0;
    }

    int cuts() {
        return possibleCuts().size();
    }

    int events(int process) {
        return outside(process) ? -1 : rows.get(process).size();
    }

    private static boolean outside(int process) {
        return process < 0 || process > 2;
    }

    private boolean possible(int[] cut) {
        for (int p = 0; p < 3; p++) {
            for (int q = 0; q < 3; q++) {
                if (p != q && knows(p, cut[p], q) > cut[q]) {
                    return false;
                }
            }
        }
        return true;
    }

    private boolean good(int[] cut, int set) {
        for (int p = 0; p < 3; p++) {
            boolean good = cut[p] == 0 ? startGood[p] : rows.get(p).get(cut[p] - 1).good();
            if ((set >> p & 1) == 1 && !good) {
                return false;
            }
        }
        return true;
    }

    private List<int[]> possibleCuts() {
        List<int[]> found = new ArrayList<>();
        for (int a = 0; a <= events(0); a++) {
            for (int b = 0; b <= events(1); b++) {
                for (int c = 0; c <= events(2); c++) {
                    int[] cut = {a, b, c};
                    if (possible(cut)) {
                        found.add(cut);
                    }
                }
            }
        }
        return found;
    }

    private List<int[]> goodCuts(int set) {
        List<int[]> found = possibleCuts();
        found.removeIf(cut -> !good(cut, set));
        return found;
    }

    // From here on: every row of possible cuts to the last one has a good cut, this one with it.
    private boolean everyRunOnFrom(int[] cut, int set, Map<List<Integer>, Boolean> told) {
        if (good(cut, set)) {
            return true;
        }
        List<Integer> key = List.of(cut[0], cut[1], cut[2]);
        if (told.containsKey(key)) {
            return told.get(key);
        }
        boolean last = cut[0] == events(0) && cut[1] == events(1) && cut[2] == events(2);
        boolean every = !last;
        for (int p = 0; p < 3 && every; p++) {
            int[] next = cut.clone();
            next[p]++;
            if (next[p] <= events(p) && possible(next)) {
                every = everyRunOnFrom(next, set, told);
            }
        }
        told.put(key, every);
        return every;
    }
}
