/** Promise 8: least tells each process's state in the least possible cut that is good for the set. */
public final class LeastTest {
    public static void main(String[] args) {
        Due due = new Due();
        raisesOthers(due);
        skipsImpossible(due);
        lowInEachProcess(due);
        oneIfThereAreAny(due);
        firstStates(due);
        lastStates(due);
        noneThere(due);
        refusesNoSetAndNoProcess(due);
        due.end();
    }

    private static void least(Due due, CutWatch x, int set, int[] cut) {
        for (int p = 0; p < 3; p++) {
            due.is("least(" + set + ", " + p + ")", x.least(set, p), cut[p]);
        }
    }

    private static void raisesOthers(Due due) {
        CutWatch x = new CutWatch();
        x.step(0, false);
        x.send(0, false);
        x.receive(1, 0, false);
        x.send(1, false);
        x.receive(2, 1, true);
        least(due, x, 4, new int[] {2, 2, 1});
        x.start(0, true);
        least(due, x, 1, new int[] {0, 0, 0});
        least(due, x, 5, new int[] {-1, -1, -1});
        x.step(0, true);
        least(due, x, 5, new int[] {3, 2, 1});
    }

    private static void skipsImpossible(Due due) {
        CutWatch x = new CutWatch();
        x.step(0, true);
        x.send(0, false);
        x.step(0, true);
        x.receive(1, 0, true);
        least(due, x, 3, new int[] {3, 1, 0});
        x.start(1, true);
        least(due, x, 3, new int[] {1, 0, 0});
        x.step(2, false);
        x.step(2, true);
        least(due, x, 7, new int[] {1, 0, 2});
    }

    // "the one in which each process's state is as low as in any other such cut": lower in all, not in one or in sum.
    private static void lowInEachProcess(Due due) {
        CutWatch x = new CutWatch();
        for (int k = 1; k <= 4; k++) {
            x.step(0, k == 2 || k == 4);
            x.step(1, k == 1 || k == 3);
        }
        x.send(0, true);
        x.receive(2, 0, true);
        least(due, x, 3, new int[] {2, 1, 0});
        least(due, x, 7, new int[] {5, 1, 1});
        x.step(2, false);
        x.send(1, false);
        x.receive(2, 1, true);
        least(due, x, 5, new int[] {5, 0, 1});
        least(due, x, 6, new int[] {5, 1, 1});
        least(due, x, 7, new int[] {5, 1, 1});
    }

    // "there is such a one if there are any"
    private static void oneIfThereAreAny(Due due) {
        for (Past past : Past.values()) {
            CutWatch x = new CutWatch();
            past.on(x);
            for (int set = 1; set <= 7; set++) {
                int any = x.possibly(set);
                for (int p = 0; p < 3; p++) {
                    due.is(past + ": least(" + set + ", " + p + ") is a state", x.least(set, p) >= 0 ? 1 : 0, any);
                }
            }
        }
    }

    // "as low as in any other such cut": state 0 is an answer, for a process of the set and for one outside it.
    private static void firstStates(Due due) {
        CutWatch x = new CutWatch();
        for (int p = 0; p < 3; p++) {
            x.start(p, true);
        }
        for (int set = 1; set <= 7; set++) {
            least(due, x, set, new int[] {0, 0, 0});
        }
        for (int n = 0; n < 24; n++) {
            x.step(n % 3, true);
        }
        for (int set = 1; set <= 7; set++) {
            least(due, x, set, new int[] {0, 0, 0});
        }
        x.start(1, false);
        for (int set = 1; set <= 7; set++) {
            least(due, x, set, new int[] {0, set >> 1 & 1, 0});
        }
    }

    // "-1 also if there is none": no good state, or good states in impossible cuts alone.
    private static void noneThere(Due due) {
        CutWatch none = new CutWatch();
        for (int set = 1; set <= 7; set++) {
            least(due, none, set, new int[] {-1, -1, -1});
        }
        CutWatch impossible = new CutWatch();
        impossible.start(0, true);
        impossible.send(0, false);
        impossible.receive(1, 0, true);
        least(due, impossible, 3, new int[] {-1, -1, -1});
        least(due, impossible, 1, new int[] {0, 0, 0});
        least(due, impossible, 2, new int[] {1, 1, 0});

        CutWatch x = new CutWatch();
        x.step(0, true);
        least(due, x, 2, new int[] {-1, -1, -1});
        least(due, x, 3, new int[] {-1, -1, -1});
        least(due, x, 1, new int[] {1, 0, 0});
    }

    // "The state of the process": up to 8.
    private static void lastStates(Due due) {
        CutWatch x = new CutWatch();
        for (int k = 1; k <= 8; k++) {
            for (int p = 0; p < 3; p++) {
                x.step(p, k == 8);
            }
        }
        least(due, x, 7, new int[] {8, 8, 8});
        least(due, x, 2, new int[] {0, 8, 0});
    }

    // TermsRefusedTest looks at all that must not change.
    private static void refusesNoSetAndNoProcess(Due due) {
        CutWatch x = new CutWatch();
        for (int p = 0; p < 3; p++) {
            x.start(p, true);
        }
        for (int set : Wrong.SETS) {
            due.is("least(" + set + ", 0)", x.least(set, 0), -1);
            due.is("least(" + set + ", -1)", x.least(set, -1), -1);
        }
        for (int p : Wrong.PROCESSES) {
            due.is("least(7, " + p + ")", x.least(7, p), -1);
        }
        least(due, x, 7, new int[] {0, 0, 0});
    }
}
