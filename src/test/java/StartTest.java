/** Promise 2: start makes state 0 of a process good or not, at any time, and nothing else. */
public final class StartTest {
    public static void main(String[] args) {
        Due due = new Due();
        setsAndTakesBack(due);
        comesAfterEvents(due);
        refuses(due);
        due.end();
    }

    private static void setsAndTakesBack(Due due) {
        for (int p = 0; p < 3; p++) {
            CutWatch x = new CutWatch();
            due.is("start(" + p + ", true)", x.start(p, true), 0);
            for (int q = 0; q < 3; q++) {
                due.is("possibly of " + q + " after start of " + p, x.possibly(1 << q), p == q ? 1 : 0);
            }
            due.is("events after start", x.events(p), 0);
            due.is("cuts after start", x.cuts(), 1);
            due.is("start again", x.start(p, true), 0);
            due.is("start(" + p + ", false)", x.start(p, false), 0);
            due.is("possibly after it is taken back", x.possibly(1 << p), 0);
        }
    }

    private static void comesAfterEvents(Due due) {
        CutWatch x = new CutWatch();
        for (int k = 1; k <= 8; k++) {
            x.step(1, k == 4);
        }
        due.is("least before start", x.least(2, 1), 4);
        due.is("start of a process with 8 events", x.start(1, true), 0);
        due.is("least after start", x.least(2, 1), 0);
        due.is("events after start", x.events(1), 8);
        x.start(1, false);
        due.is("least after it is taken back", x.least(2, 1), 4);
    }

    private static void refuses(Due due) {
        CutWatch x = new CutWatch();
        for (int p : Wrong.PROCESSES) {
            due.is("start(" + p + ", true)", x.start(p, true), -1);
            due.is("start(" + p + ", false)", x.start(p, false), -1);
        }
        for (int set = 1; set <= 7; set++) {
            due.is("possibly(" + set + ") after refused starts", x.possibly(set), 0);
        }
    }
}
