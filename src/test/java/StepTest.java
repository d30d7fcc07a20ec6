/** Promise 3: step adds an event that neither sends nor receives. */
public final class StepTest {
    public static void main(String[] args) {
        Due due = new Due();
        counts(due);
        leadsToGoodOrNot(due);
        sendsNothing(due);
        refuses(due);
        due.end();
    }

    private static void counts(Due due) {
        CutWatch x = new CutWatch();
        for (int k = 1; k <= 8; k++) {
            for (int p = 0; p < 3; p++) {
                due.is("step " + k + " of " + p, x.step(p, false), k);
            }
        }
        for (int p = 0; p < 3; p++) {
            due.is("step 9 of " + p, x.step(p, true), -1);
            due.is("events after the refused step", x.events(p), 8);
            due.is("possibly after the refused step", x.possibly(1 << p), 0);
        }
        due.is("cuts after the refused steps", x.cuts(), 729);
    }

    private static void leadsToGoodOrNot(Due due) {
        CutWatch x = new CutWatch();
        x.step(2, false);
        due.is("possibly after a step to a bad state", x.possibly(4), 0);
        x.step(2, true);
        due.is("possibly after a step to a good state", x.possibly(4), 1);
        due.is("least after a step to a good state", x.least(4, 2), 2);
    }

    private static void sendsNothing(Due due) {
        CutWatch x = new CutWatch();
        x.step(0, false);
        due.is("receive after a step", x.receive(1, 0, false), -1);
        x.step(1, false);
        due.is("knows after steps", x.knows(1, 1, 0), 0);
        due.is("the first message after steps", x.send(0, false), 0);
    }

    private static void refuses(Due due) {
        CutWatch x = new CutWatch();
        for (int p : Wrong.PROCESSES) {
            due.is("step(" + p + ", true)", x.step(p, true), -1);
        }
        due.is("cuts after refused steps", x.cuts(), 1);
        due.is("possibly after refused steps", x.possibly(1), 0);
    }
}
