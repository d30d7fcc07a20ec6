/** Promise 4: send adds an event and answers the number of its message. */
public final class SendTest {
    public static void main(String[] args) {
        Due due = new Due();
        numbersMessages(due);
        isAnEvent(due);
        refuses(due);
        due.end();
    }

    private static void numbersMessages(Due due) {
        CutWatch x = new CutWatch();
        for (int message = 0; message < 24; message++) {
            due.is("send " + message, x.send(message % 3, false), message);
        }
        for (int p = 0; p < 3; p++) {
            due.is("a ninth send of " + p, x.send(p, true), -1);
            due.is("events after the refused send", x.events(p), 8);
            due.is("possibly after the refused send", x.possibly(1 << p), 0);
        }
    }

    private static void isAnEvent(Due due) {
        CutWatch x = new CutWatch();
        due.is("send(1, true)", x.send(1, true), 0);
        due.is("events(1)", x.events(1), 1);
        due.is("events(0)", x.events(0), 0);
        due.is("least(2, 1)", x.least(2, 1), 1);
        due.is("knows(1, 1, 1)", x.knows(1, 1, 1), 1);
        due.is("knows(0, 0, 1) before it is received", x.knows(0, 0, 1), 0);
        due.is("cuts()", x.cuts(), 2);
        due.is("send(1, false)", x.send(1, false), 1);
        due.is("definitely(2)", x.definitely(2), 1);
        for (int k = 3; k <= 8; k++) {
            due.is("step of a sender", x.step(1, false), k);
        }
        due.is("send after 8 mixed events", x.send(1, false), -1);
        due.is("a refused send takes no number", x.send(2, false), 2);
    }

    private static void refuses(Due due) {
        CutWatch x = new CutWatch();
        for (int p : Wrong.PROCESSES) {
            due.is("send(" + p + ", true)", x.send(p, true), -1);
        }
        due.is("cuts after refused sends", x.cuts(), 1);
        due.is("receive after refused sends", x.receive(0, 0, true), -1);
        due.is("the first message after refused sends", x.send(0, false), 0);
    }
}
