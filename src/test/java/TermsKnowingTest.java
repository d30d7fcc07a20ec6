/** Terms: the sentence about knowing, one test for each of its cases. */
public final class TermsKnowingTest {
    public static void main(String[] args) {
        Due due = new Due();
        ofItself(due);
        ofAnotherInState0(due);
        inTheStateBefore(due);
        theGreatestOfBoth(due);
        inTheSendersState(due);
        onlyOfMessagesReceived(due);
        due.end();
    }

    // "of itself, n = k": also in state 0, and after another has told it of itself.
    private static void ofItself(Due due) {
        for (int p = 0; p < 3; p++) {
            int other = (p + 1) % 3;
            CutWatch x = new CutWatch();
            due.is("in the only state", x.knows(p, 0, p), 0);
            x.send(p, false);
            x.receive(other, 0, false);
            x.send(other, false);
            x.step(p, false);
            x.receive(p, 1, false);
            for (int k = 4; k <= 8; k++) {
                x.step(p, false);
            }
            for (int k = 0; k <= 8; k++) {
                due.is("knows(" + p + ", " + k + ", " + p + ")", x.knows(p, k, p), k);
            }
        }
    }

    // "of another process q, n is 0 if k = 0": also when q has events, and when the process has heard of them since.
    private static void ofAnotherInState0(Due due) {
        for (int p = 0; p < 3; p++) {
            int q = (p + 1) % 3;
            CutWatch x = new CutWatch();
            due.is("when q has no event", x.knows(p, 0, q), 0);
            for (int n = 0; n < 8; n++) {
                x.send(q, false);
            }
            due.is("when q has 8 events", x.knows(p, 0, q), 0);
            x.receive(p, 7, false);
            due.is("in state 1, all of them", x.knows(p, 1, q), 8);
            due.is("in state 0, still", x.knows(p, 0, q), 0);
            due.is("of the third process", x.knows(p, 0, 3 - p - q), 0);
        }
    }

    // "what it knows of q in its state k - 1": steps and sends keep it, up to the eighth state.
    private static void inTheStateBefore(Due due) {
        for (int p = 0; p < 3; p++) {
            int q = (p + 2) % 3;
            CutWatch x = new CutWatch();
            x.step(q, false);
            x.send(q, false);
            x.receive(p, 0, false);
            for (int k = 2; k <= 8; k++) {
                if (k % 2 == 0) {
                    x.step(p, false);
                } else {
                    x.send(p, false);
                }
            }
            for (int k = 1; k <= 8; k++) {
                due.is("knows(" + p + ", " + k + ", " + q + ")", x.knows(p, k, q), 2);
            }
        }
    }

    // "the greatest of": an older message takes nothing away, a newer one adds, an equal one changes nothing.
    private static void theGreatestOfBoth(Due due) {
        CutWatch x = new CutWatch();
        x.send(0, false);
        x.send(0, false);
        x.send(0, false);
        x.receive(1, 1, false);
        due.is("after the second message", x.knows(1, 1, 0), 2);
        x.receive(1, 0, false);
        due.is("after the older one", x.knows(1, 2, 0), 2);
        x.receive(2, 2, false);
        x.send(2, false);
        x.receive(1, 3, false);
        due.is("after a newer one by way of 2", x.knows(1, 3, 0), 3);
        due.is("of 2", x.knows(1, 3, 2), 2);
        x.send(2, false);
        x.receive(1, 4, false);
        due.is("after one that tells the same of 0", x.knows(1, 4, 0), 3);
        due.is("and more of 2", x.knows(1, 4, 2), 3);
    }

    // "what s knows of q in its state j": the sending event counts, what comes after it does not.
    private static void inTheSendersState(Due due) {
        CutWatch x = new CutWatch();
        x.send(2, false);
        x.send(2, false);
        x.receive(1, 0, false);
        x.send(1, false);
        x.receive(1, 1, false);
        x.send(1, false);
        x.step(1, false);
        x.receive(0, 2, false);
        due.is("of the sender, with the sending event", x.knows(0, 1, 1), 2);
        due.is("of 2, without what the sender heard later", x.knows(0, 1, 2), 1);
        x.receive(0, 3, false);
        due.is("of the sender at its later message", x.knows(0, 2, 1), 4);
        due.is("of 2 at the later message", x.knows(0, 2, 2), 2);
        due.is("in the state before", x.knows(0, 1, 2), 1);
    }

    // "if its event k receives a message": a message that is only sent tells nobody anything.
    private static void onlyOfMessagesReceived(Due due) {
        CutWatch x = new CutWatch();
        for (int n = 0; n < 8; n++) {
            x.send(0, false);
            x.step(1, false);
        }
        for (int k = 0; k <= 8; k++) {
            due.is("knows(1, " + k + ", 0)", x.knows(1, k, 0), 0);
            due.is("knows(0, " + k + ", 1)", x.knows(0, k, 1), 0);
        }
        due.is("receive with 8 events", x.receive(1, 0, false), -1);
        due.is("knows(1, 8, 0) after it is refused", x.knows(1, 8, 0), 0);
    }
}
