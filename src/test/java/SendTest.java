/** Promise 4: send adds an event and answers the number of its message. */
public final class SendTest {
    public static void main(String[] args) {
        Due due = new Due();
        isAnEvent(due);
        sendsAMessage(due);
        answersTheNumberOfTheMessage(due);
        refusesWith8Events(due);
        refusesNoProcess(due);
        due.end();
    }

    // "The process has an event"
    private static void isAnEvent(Due due) {
        CutWatch x = new CutWatch();
        x.send(1, true);
        due.is("events(1)", x.events(1), 1);
        due.is("events(0)", x.events(0), 0);
        due.is("least(2, 1)", x.least(2, 1), 1);
        due.is("knows(1, 1, 1)", x.knows(1, 1, 1), 1);
        due.is("cuts()", x.cuts(), 2);
        x.send(1, false);
        due.is("least(2, 1) after one to a bad state", x.least(2, 1), 1);
        due.is("definitely(2)", x.definitely(2), 1);
    }

    // "that sends a message"
    private static void sendsAMessage(Due due) {
        for (int p = 0; p < 3; p++) {
            for (int q = 0; q < 3; q++) {
                CutWatch x = new CutWatch();
                x.send(p, false);
                due.is("knows(" + q + ", 0, " + p + ") before it is received", x.knows(q, 0, p), 0);
                due.is("receive(" + q + ", 0, false), sent by " + p, x.receive(q, 0, false), p == q ? -1 : 1);
            }
        }
    }

    // "Answers the number of the message": from 0 to 23, the most there can be.
    private static void answersTheNumberOfTheMessage(Due due) {
        CutWatch x = new CutWatch();
        for (int message = 0; message < 24; message++) {
            due.is("send " + message + " in turn", x.send(message % 3, false), message);
        }
        CutWatch y = new CutWatch();
        for (int message = 0; message < 24; message++) {
            due.is("send " + message + " in rows", y.send(message / 8, false), message);
        }
        CutWatch z = new CutWatch();
        for (int k = 1; k <= 7; k++) {
            z.step(0, false);
        }
        due.is("the first message as the eighth event", z.send(0, false), 0);
    }

    // "-1 also if it has 8 events": and the refused message takes no number.
    private static void refusesWith8Events(Due due) {
        Past[] full = {Past.FULL_OF_STEPS, Past.FULL_OF_SENDS, Past.FULL_AND_GOOD_IN_THE_LAST_STATE};
        for (Past past : full) {
            for (int n = 0; n < 3; n++) {
                int p = n;
                Twins twins = new Twins(due, past);
                twins.refuse("send(" + p + ", true)", x -> x.send(p, true));
                twins.refuse("send(" + p + ", false)", x -> x.send(p, false));
                twins.answerAlike("a send of " + p + " as the ninth event");
            }
        }
        Twins twins = new Twins(due, Past.ONE_IS_FULL);
        twins.refuse("send(1, true)", x -> x.send(1, true));
        twins.answerAlike("a send of 1 as the ninth event");

        CutWatch x = new CutWatch();
        Past.ONE_IS_FULL.on(x);
        due.is("send(1, false)", x.send(1, false), -1);
        due.is("no message of it", x.receive(0, 2, false), -1);
        due.is("the next message", x.send(2, false), 2);
    }

    private static void refusesNoProcess(Due due) {
        CutWatch x = new CutWatch();
        for (int p : Wrong.PROCESSES) {
            due.is("send(" + p + ", true)", x.send(p, true), -1);
        }
        due.is("cuts after refused sends", x.cuts(), 1);
        due.is("receive after refused sends", x.receive(0, 0, true), -1);
        due.is("the first message after refused sends", x.send(0, false), 0);
    }
}
