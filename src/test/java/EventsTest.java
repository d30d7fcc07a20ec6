/** Promise 11: events counts the events of a process, whatever they are. */
public final class EventsTest {
    public static void main(String[] args) {
        Due due = new Due();
        countsAllKinds(due);
        from0To8(due);
        answersMinus1(due);
        due.end();
    }

    // "How many events the process has"
    private static void countsAllKinds(Due due) {
        CutWatch x = new CutWatch();
        x.step(0, false);
        x.send(0, false);
        x.receive(1, 0, false);
        x.start(2, true);
        due.is("events(0) after a step and a send", x.events(0), 2);
        due.is("events(1) after a receive", x.events(1), 1);
        due.is("events(2) after a start", x.events(2), 0);
        x.receive(1, 0, false);
        x.receive(0, 0, false);
        due.is("events(0) after a refused receive", x.events(0), 2);
        due.is("events(1) after a refused receive", x.events(1), 1);
    }

    private static void from0To8(Due due) {
        for (int p = 0; p < 3; p++) {
            CutWatch x = new CutWatch();
            for (int k = 0; k <= 10; k++) {
                due.is("events(" + p + ") after " + k + " steps", x.events(p), Integer.min(k, 8));
                due.is("events of the next one", x.events((p + 1) % 3), 0);
                x.step(p, false);
            }
        }
    }

    // "-1": for a process that is none. TermsRefusedTest looks at all that must not change.
    private static void answersMinus1(Due due) {
        CutWatch x = new CutWatch();
        for (int n = 0; n < 24; n++) {
            x.step(n % 3, true);
        }
        for (int p : Wrong.PROCESSES) {
            due.is("events(" + p + ")", x.events(p), -1);
        }
        for (int p = 0; p < 3; p++) {
            due.is("events(" + p + ") in the end", x.events(p), 8);
        }
    }
}
