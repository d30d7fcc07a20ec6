/** Promise 3: step adds an event that neither sends nor receives. */
public final class StepTest {
    public static void main(String[] args) {
        Due due = new Due();
        neitherSendsNorReceives(due);
        leadsToGoodOrNot(due);
        answersTheNumberOfEvents(due);
        refusesWith8Events(due);
        refusesNoProcess(due);
        due.end();
    }

    // "The process has an event that neither sends nor receives"
    private static void neitherSendsNorReceives(Due due) {
        CutWatch x = new CutWatch();
        x.step(0, false);
        due.is("receive after a step", x.receive(1, 0, false), -1);
        due.is("the first message after a step", x.send(0, false), 0);
        x.step(1, false);
        due.is("knows after a step with a message under way", x.knows(1, 1, 0), 0);
        due.is("the message is still there", x.receive(1, 0, false), 2);
    }

    // "it leads to a state that is good or not"
    private static void leadsToGoodOrNot(Due due) {
        CutWatch x = new CutWatch();
        x.step(2, false);
        due.is("possibly after a step to a bad state", x.possibly(4), 0);
        x.step(2, true);
        due.is("possibly after a step to a good state", x.possibly(4), 1);
        due.is("least after a step to a good state", x.least(4, 2), 2);
        due.is("possibly of the others", x.possibly(1) + x.possibly(2), 0);
    }

    // "Answers the number of its events then": from 1 to 8, of this process alone, and of all kinds.
    private static void answersTheNumberOfEvents(Due due) {
        CutWatch x = new CutWatch();
        for (int k = 1; k <= 8; k++) {
            for (int p = 0; p < 3; p++) {
                due.is("step " + k + " of " + p, x.step(p, false), k);
            }
        }
        due.is("cuts()", x.cuts(), 729);

        CutWatch y = new CutWatch();
        y.send(0, false);
        y.send(0, false);
        y.receive(1, 0, false);
        due.is("step after two sends", y.step(0, false), 3);
        due.is("step after a receive", y.step(1, false), 2);
        due.is("step after nothing", y.step(2, false), 1);
    }

    // "-1 also if it has 8"
    private static void refusesWith8Events(Due due) {
        Past[] full = {Past.FULL_OF_STEPS, Past.FULL_OF_SENDS, Past.FULL_AND_GOOD_IN_THE_LAST_STATE};
        for (Past past : full) {
            for (int n = 0; n < 3; n++) {
                int p = n;
                Twins twins = new Twins(due, past);
                twins.refuse("step(" + p + ", true)", x -> x.step(p, true));
                twins.refuse("step(" + p + ", false)", x -> x.step(p, false));
                twins.answerAlike("a ninth step of " + p);
            }
        }
        Twins twins = new Twins(due, Past.ONE_IS_FULL);
        twins.refuse("step(1, true)", x -> x.step(1, true));
        twins.answerAlike("a ninth step of 1");
    }

    private static void refusesNoProcess(Due due) {
        CutWatch x = new CutWatch();
        for (int p : Wrong.PROCESSES) {
            due.is("step(" + p + ", true)", x.step(p, true), -1);
        }
        due.is("cuts after refused steps", x.cuts(), 1);
        due.is("possibly after refused steps", x.possibly(1), 0);
    }
}
