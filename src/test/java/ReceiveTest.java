/** Promise 5: receive adds an event that takes a message which another process sent and no one has received. */
public final class ReceiveTest {
    public static void main(String[] args) {
        Due due = new Due();
        receivesInAnyOrder(due);
        refusesMessages(due);
        refusesFullProcess(due);
        refusesProcesses(due);
        due.end();
    }

    private static void receivesInAnyOrder(Due due) {
        CutWatch x = new CutWatch();
        x.send(0, false);
        x.send(0, false);
        x.send(2, false);
        due.is("receive(1, 1, true)", x.receive(1, 1, true), 1);
        due.is("knows(1, 1, 0)", x.knows(1, 1, 0), 2);
        due.is("least(2, 1)", x.least(2, 1), 1);
        due.is("receive(1, 2, false)", x.receive(1, 2, false), 2);
        due.is("receive(1, 0, false)", x.receive(1, 0, false), 3);
        due.is("knows(1, 3, 0) after an older message", x.knows(1, 3, 0), 2);
        due.is("knows(1, 3, 2)", x.knows(1, 3, 2), 1);
        due.is("events(0)", x.events(0), 2);
        due.is("events(1)", x.events(1), 3);
    }

    private static void refusesMessages(Due due) {
        CutWatch x = new CutWatch();
        x.send(0, false);
        int[] unsent = {-1, 1, 2, 23, 24, 25, 1000, Integer.MIN_VALUE, Integer.MAX_VALUE};
        for (int message : unsent) {
            due.is("receive(1, " + message + ", true)", x.receive(1, message, true), -1);
        }
        due.is("receive of its own message", x.receive(0, 0, true), -1);
        due.is("events(0) after it", x.events(0), 1);
        due.is("events(1) after it", x.events(1), 0);
        due.is("possibly(1) after it", x.possibly(1), 0);
        due.is("possibly(2) after it", x.possibly(2), 0);
        due.is("receive(2, 0, false) after refused ones", x.receive(2, 0, false), 1);
        due.is("receive again", x.receive(2, 0, true), -1);
        due.is("receive by another", x.receive(1, 0, true), -1);
        due.is("receive by the sender", x.receive(0, 0, true), -1);
        due.is("events(2) after it", x.events(2), 1);
        due.is("knows(1, 0, 0) after it", x.knows(1, 0, 0), 0);
        due.is("cuts()", x.cuts(), 3);
    }

    private static void refusesFullProcess(Due due) {
        CutWatch x = new CutWatch();
        x.send(0, false);
        for (int k = 1; k <= 8; k++) {
            x.step(1, false);
        }
        due.is("receive with 8 events", x.receive(1, 0, true), -1);
        due.is("events(1)", x.events(1), 8);
        due.is("knows(1, 8, 0)", x.knows(1, 8, 0), 0);
        due.is("possibly(2)", x.possibly(2), 0);
        due.is("the message is still there", x.receive(2, 0, true), 1);

        CutWatch y = new CutWatch();
        for (int message = 0; message < 8; message++) {
            y.send(message % 2 * 2, false);
        }
        for (int message = 7; message >= 0; message--) {
            due.is("receive(1, " + message + ", false)", y.receive(1, message, false), 8 - message);
        }
        due.is("send after 8 received", y.send(1, false), -1);
        due.is("step after 8 received", y.step(1, false), -1);
    }

    private static void refusesProcesses(Due due) {
        CutWatch x = new CutWatch();
        x.send(0, false);
        for (int p : Wrong.PROCESSES) {
            due.is("receive(" + p + ", 0, true)", x.receive(p, 0, true), -1);
        }
        due.is("cuts after refused ones", x.cuts(), 2);
        due.is("receive(1, 0, true)", x.receive(1, 0, true), 1);
    }
}
