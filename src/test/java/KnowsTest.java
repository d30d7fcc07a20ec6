/** Promise 6: knows tells what a process knows in each of its states. TermsKnowingTest has the rule of knowing. */
public final class KnowsTest {
    public static void main(String[] args) {
        Due due = new Due();
        passesOn(due);
        fromState0ToTheLast(due);
        refusesFewerThanKEvents(due);
        refusesKBelow0(due);
        refusesNoProcess(due);
        due.end();
    }

    // "How many events of process q the process knows in its state k"
    private static void passesOn(Due due) {
        CutWatch x = new CutWatch();
        x.step(0, false);
        x.step(0, false);
        x.send(0, false);
        x.receive(1, 0, false);
        x.step(1, false);
        x.send(1, false);
        x.step(2, false);
        x.receive(2, 1, false);
        x.step(2, false);
        due.is("before the message", x.knows(2, 1, 0), 0);
        due.is("of the sender", x.knows(2, 2, 1), 3);
        due.is("of the sender's sender", x.knows(2, 2, 0), 3);
        due.is("of itself", x.knows(2, 2, 2), 2);
        due.is("in the state after", x.knows(2, 3, 1), 3);
        due.is("in the state after, at second hand", x.knows(2, 3, 0), 3);
        due.is("the sender learns nothing", x.knows(1, 3, 2), 0);
        x.send(2, false);
        x.receive(0, 2, false);
        due.is("back at the first, of itself", x.knows(0, 4, 0), 4);
        due.is("back at the first, of 1", x.knows(0, 4, 1), 3);
        due.is("back at the first, of 2", x.knows(0, 4, 2), 4);
        due.is("its state before", x.knows(0, 3, 2), 0);
    }

    private static void fromState0ToTheLast(Due due) {
        for (int p = 0; p < 3; p++) {
            CutWatch x = new CutWatch();
            for (int last = 0; last <= 8; last++) {
                due.is("in state 0 of " + last, x.knows(p, 0, p), 0);
                due.is("in the last state, of itself", x.knows(p, last, p), last);
                due.is("in the last state, of another", x.knows(p, last, (p + 1) % 3), 0);
                x.step(p, false);
            }
        }
    }

    // "-1 also if it has fewer than k events": k is one too many, or far more; the others' events do not count.
    private static void refusesFewerThanKEvents(Due due) {
        for (int p = 0; p < 3; p++) {
            CutWatch x = new CutWatch();
            for (int n = 0; n < 8; n++) {
                x.step((p + 1) % 3, false);
                x.step((p + 2) % 3, false);
            }
            for (int last = 0; last <= 8; last++) {
                for (int q = 0; q < 3; q++) {
                    due.is("knows one state too far of " + last, x.knows(p, last + 1, q), -1);
                    due.is("knows(" + p + ", 9, " + q + ")", x.knows(p, 9, q), -1);
                }
                x.step(p, false);
            }
        }
        for (Past past : Past.values()) {
            Twins twins = new Twins(due, past);
            for (int k : Wrong.STATES) {
                for (int n = 0; n < 9; n++) {
                    int p = n / 3;
                    int q = n % 3;
                    twins.refuse("knows(" + p + ", " + k + ", " + q + ")", x -> x.knows(p, k, q));
                }
            }
            twins.answerAlike("knows of no state");
        }
    }

    // "or k is below 0"
    private static void refusesKBelow0(Due due) {
        CutWatch x = new CutWatch();
        Past.FULL_AND_GOOD_IN_THE_LAST_STATE.on(x);
        int[] below = {-1, -2, -8, -9, -27, Integer.MIN_VALUE};
        for (int k : below) {
            for (int p = 0; p < 3; p++) {
                for (int q = 0; q < 3; q++) {
                    due.is("knows(" + p + ", " + k + ", " + q + ")", x.knows(p, k, q), -1);
                }
            }
        }
    }

    private static void refusesNoProcess(Due due) {
        CutWatch x = new CutWatch();
        x.step(0, false);
        for (int p : Wrong.PROCESSES) {
            due.is("knows(" + p + ", 0, 0)", x.knows(p, 0, 0), -1);
            due.is("knows(0, 0, " + p + ")", x.knows(0, 0, p), -1);
        }
        due.is("knows(0, 1, 0)", x.knows(0, 1, 0), 1);
    }
}
