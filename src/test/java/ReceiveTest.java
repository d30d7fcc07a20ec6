/** Promise 5: receive adds an event that takes a message which another process sent and no one has received. */
public final class ReceiveTest {
    public static void main(String[] args) {
        Due due = new Due();
        isAnEvent(due);
        receivesInAnyOrder(due);
        answersTheNumberOfEvents(due);
        receivesTheLastMessageThereCanBe(due);
        refusesWith8Events(due);
        refusesMessageNeverSent(due);
        refusesMessageReceived(due);
        refusesOwnMessage(due);
        refusesNoProcess(due);
        due.end();
    }

    // "The process has an event that receives the message."
    private static void isAnEvent(Due due) {
        CutWatch x = new CutWatch();
        x.send(0, false);
        x.receive(1, 0, true);
        due.is("events(1)", x.events(1), 1);
        due.is("events(0)", x.events(0), 1);
        due.is("least(2, 1)", x.least(2, 1), 1);
        due.is("knows(1, 1, 0)", x.knows(1, 1, 0), 1);
        due.is("cuts()", x.cuts(), 3);
        due.is("possibly(1)", x.possibly(1), 0);

        CutWatch y = new CutWatch();
        y.send(0, false);
        y.receive(1, 0, false);
        due.is("possibly(2) after one to a bad state", y.possibly(2), 0);
    }

    private static void receivesInAnyOrder(Due due) {
        CutWatch x = new CutWatch();
        x.send(0, false);
        x.send(0, false);
        x.send(2, false);
        due.is("receive(1, 1, true)", x.receive(1, 1, true), 1);
        due.is("knows(1, 1, 0)", x.knows(1, 1, 0), 2);
        due.is("receive(1, 2, false)", x.receive(1, 2, false), 2);
        due.is("receive(1, 0, false)", x.receive(1, 0, false), 3);
        due.is("knows(1, 3, 0) after an older message", x.knows(1, 3, 0), 2);
        due.is("knows(1, 3, 2)", x.knows(1, 3, 2), 1);
        due.is("events(0)", x.events(0), 2);
    }

    // "Answers the number of its events then": from 1 to 8, and of all kinds.
    private static void answersTheNumberOfEvents(Due due) {
        CutWatch x = new CutWatch();
        for (int message = 0; message < 8; message++) {
            x.send(message % 2 * 2, false);
        }
        for (int message = 7; message >= 0; message--) {
            due.is("receive(1, " + message + ", false)", x.receive(1, message, false), 8 - message);
        }
        x.step(0, false);
        x.send(2, false);
        due.is("receive after four sends and a step", x.receive(0, 8, false), 6);
    }

    // "the message": 24 events leave room to receive number 22, none higher.
    private static void receivesTheLastMessageThereCanBe(Due due) {
        CutWatch x = new CutWatch();
        for (int message = 0; message < 7; message++) {
            x.send(2, false);
        }
        for (int message = 7; message < 23; message++) {
            x.send(message % 2, false);
        }
        due.is("receive(2, 23, false)", x.receive(2, 23, false), -1);
        due.is("receive(2, 22, false)", x.receive(2, 22, false), 8);
        due.is("knows(2, 8, 0)", x.knows(2, 8, 0), 8);
        due.is("knows(2, 8, 1)", x.knows(2, 8, 1), 0);
    }

    // "-1 also if it has 8 events": and the message stays for another to receive.
    private static void refusesWith8Events(Due due) {
        Twins twins = new Twins(due, Past.ONE_IS_FULL);
        for (int n = 0; n < 2; n++) {
            int message = n;
            twins.refuse("receive(1, " + message + ", true)", x -> x.receive(1, message, true));
            twins.refuse("receive(1, " + message + ", false)", x -> x.receive(1, message, false));
        }
        twins.answerAlike("receives of 1 as the ninth event");

        Past[] full = {Past.FULL_OF_STEPS, Past.FULL_OF_SENDS, Past.FULL_AND_GOOD_IN_THE_LAST_STATE};
        for (Past past : full) {
            Twins others = new Twins(due, past);
            for (int n = 0; n < 72; n++) {
                int p = n % 3;
                int message = n / 3;
                others.refuse("receive(" + p + ", " + message + ", true)", x -> x.receive(p, message, true));
            }
            others.answerAlike("receives as the ninth event");
        }

        CutWatch x = new CutWatch();
        Past.ONE_IS_FULL.on(x);
        due.is("receive(1, 0, true)", x.receive(1, 0, true), -1);
        due.is("the message is still there", x.receive(2, 0, false), 2);
    }

    // "or the message was never sent": below 0, the next one to come, and all above it.
    private static void refusesMessageNeverSent(Due due) {
        Past[] pasts = {Past.NEW, Past.GOOD_AT_THE_START, Past.MESSAGES_UNDER_WAY,
            Past.ALL_RECEIVED_GOOD_IN_THE_LAST_STATE, Past.ONE_IS_FULL};
        int[] sent = {0, 0, 4, 3, 2};
        for (int n = 0; n < pasts.length; n++) {
            for (int m = 0; m < 3; m++) {
                int p = m;
                Twins twins = new Twins(due, pasts[n]);
                for (int message = sent[n]; message < 24; message++) {
                    int unsent = message;
                    twins.refuse("receive(" + p + ", " + unsent + ", true)", x -> x.receive(p, unsent, true));
                }
                for (int message : Wrong.MESSAGES) {
                    twins.refuse("receive(" + p + ", " + message + ", true)", x -> x.receive(p, message, true));
                    twins.refuse("receive(" + p + ", " + message + ", false)", x -> x.receive(p, message, false));
                }
                twins.answerAlike("receives of messages never sent by " + p);
            }
        }
    }

    // "has been received": by this process, or by another.
    private static void refusesMessageReceived(Due due) {
        Twins twins = new Twins(due, Past.ALL_RECEIVED_GOOD_IN_THE_LAST_STATE);
        for (int n = 0; n < 9; n++) {
            int p = n % 3;
            int message = n / 3;
            twins.refuse("receive(" + p + ", " + message + ", true)", x -> x.receive(p, message, true));
            twins.refuse("receive(" + p + ", " + message + ", false)", x -> x.receive(p, message, false));
        }
        twins.answerAlike("receives of messages received");

        // Message 0 went from 0 to 1; the others are under way.
        Twins others = new Twins(due, Past.MESSAGES_UNDER_WAY);
        others.refuse("receive(1, 0, true)", x -> x.receive(1, 0, true));
        others.refuse("receive(2, 0, true)", x -> x.receive(2, 0, true));
        others.answerAlike("receives of one message received");
    }

    // "or was sent by this process": also when it is received, and it stays for another to receive.
    private static void refusesOwnMessage(Due due) {
        Twins twins = new Twins(due, Past.MESSAGES_UNDER_WAY);
        int[] sender = {0, 1, 2, 1};
        for (int n = 0; n < 4; n++) {
            int message = n;
            int p = sender[n];
            twins.refuse("receive(" + p + ", " + message + ", true)", x -> x.receive(p, message, true));
            twins.refuse("receive(" + p + ", " + message + ", false)", x -> x.receive(p, message, false));
        }
        twins.answerAlike("receives of own messages");

        CutWatch x = new CutWatch();
        for (int p = 0; p < 3; p++) {
            x.send(p, false);
        }
        for (int p = 0; p < 3; p++) {
            due.is("receive(" + p + ", " + p + ", true)", x.receive(p, p, true), -1);
            due.is("events(" + p + ")", x.events(p), 1);
            due.is("possibly(" + (1 << p) + ")", x.possibly(1 << p), 0);
        }
        for (int p = 0; p < 3; p++) {
            due.is("the message of " + p + " is still there", x.receive((p + 1) % 3, p, false), 2);
        }
    }

    private static void refusesNoProcess(Due due) {
        CutWatch x = new CutWatch();
        x.send(0, false);
        for (int p : Wrong.PROCESSES) {
            due.is("receive(" + p + ", 0, true)", x.receive(p, 0, true), -1);
        }
        due.is("cuts after refused ones", x.cuts(), 2);
        due.is("receive(1, 0, true)", x.receive(1, 0, true), 1);
    }
}
