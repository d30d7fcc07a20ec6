/** Promise 2: start makes state 0 of a process good or not, at any time, and nothing else. */
public final class StartTest {
    public static void main(String[] args) {
        Due due = new Due();
        becomesGoodOrNot(due);
        state0Alone(due);
        answers0(due);
        answersMinus1(due);
        due.end();
    }

    // "State 0 of the process becomes good or not."
    private static void becomesGoodOrNot(Due due) {
        for (int p = 0; p < 3; p++) {
            CutWatch x = new CutWatch();
            x.start(p, true);
            for (int q = 0; q < 3; q++) {
                due.is("possibly of " + q + " after start of " + p, x.possibly(1 << q), p == q ? 1 : 0);
            }
            x.start(p, true);
            due.is("possibly after start again", x.possibly(1 << p), 1);
            x.start(p, false);
            due.is("possibly after it is taken back", x.possibly(1 << p), 0);
            due.is("events after start", x.events(p), 0);
            due.is("cuts after start", x.cuts(), 1);
        }
    }

    // "State 0 of the process": no later state, also when there are 8.
    private static void state0Alone(Due due) {
        CutWatch x = new CutWatch();
        for (int k = 1; k <= 8; k++) {
            x.step(1, k == 4);
        }
        due.is("least before start", x.least(2, 1), 4);
        x.start(1, true);
        due.is("least after start", x.least(2, 1), 0);
        due.is("events after start", x.events(1), 8);
        x.start(1, false);
        due.is("least after it is taken back", x.least(2, 1), 4);

        // 0 is good only once it knows all events of 1, so that it asks for the last state of 1.
        CutWatch y = new CutWatch();
        y.step(1, false);
        y.send(1, false);
        y.receive(0, 0, true);
        y.start(1, true);
        due.is("the last state is not good", y.possibly(3), 0);
    }

    // "Answers 0": whether or not something changes, and however many events there are.
    private static void answers0(Due due) {
        for (int p = 0; p < 3; p++) {
            CutWatch x = new CutWatch();
            due.is("start(" + p + ", false), as it was", x.start(p, false), 0);
            due.is("start(" + p + ", true)", x.start(p, true), 0);
            due.is("start(" + p + ", true), as it was", x.start(p, true), 0);
            for (int k = 1; k <= 8; k++) {
                x.step(p, false);
                due.is("start(" + p + ", true) with " + k + " events", x.start(p, true), 0);
            }
            due.is("start(" + p + ", false)", x.start(p, false), 0);
        }
    }

    // "or -1": for a process that is none. TermsRefusedTest looks at all that must not change.
    private static void answersMinus1(Due due) {
        CutWatch x = new CutWatch();
        for (int p : Wrong.PROCESSES) {
            due.is("start(" + p + ", true)", x.start(p, true), -1);
            due.is("start(" + p + ", false)", x.start(p, false), -1);
        }
        for (int set = 1; set <= 7; set++) {
            due.is("possibly(" + set + ") after refused starts", x.possibly(set), 0);
        }
    }
}
