/** Terms: the sentences about processes, events, states and messages, one test for each. */
public final class TermsEventsTest {
    public static void main(String[] args) {
        Due due = new Due();
        processesAre0And1And2(due);
        atMost8Events(due);
        noEventsAtTheStart(due);
        eventsLeadToTheNextState(due);
        notGoodAtTheStart(due);
        messagesAreNumberedFrom0(due);
        messagesAreNumberedAsTheyAreSent(due);
        receivedAtMostOnce(due);
        due.end();
    }

    // "PROCESSES are 0, 1 and 2."
    private static void processesAre0And1And2(Due due) {
        for (int p = 0; p <= 2; p++) {
            int other = (p + 1) % 3;
            CutWatch x = new CutWatch();
            due.is("start(" + p + ", true)", x.start(p, true), 0);
            due.is("step(" + p + ", false)", x.step(p, false), 1);
            due.is("send(" + p + ", false)", x.send(p, false), 0);
            due.is("send(" + other + ", false)", x.send(other, false), 1);
            due.is("receive(" + p + ", 1, false)", x.receive(p, 1, false), 3);
            due.is("knows(" + p + ", 3, " + other + ")", x.knows(p, 3, other), 1);
            due.is("knows(" + other + ", 1, " + p + ")", x.knows(other, 1, p), 0);
            due.is("least(1 << " + p + ", " + p + ")", x.least(1 << p, p), 0);
            due.is("events(" + p + ")", x.events(p), 3);
        }
    }

    // "a process has at most 8 events": the kinds of event count together, and each process for itself.
    private static void atMost8Events(Due due) {
        for (int p = 0; p < 3; p++) {
            int other = (p + 1) % 3;
            CutWatch x = new CutWatch();
            for (int n = 0; n < 7; n++) {
                x.send(other, false);
            }
            for (int n = 0; n < 3; n++) {
                x.step(p, false);
                x.receive(p, n, false);
            }
            x.send(p, false);
            due.is("the seventh event is there", x.events(p), 7);
            due.is("receive as the eighth event", x.receive(p, 3, false), 8);
            due.is("step as the ninth event", x.step(p, true), -1);
            due.is("send as the ninth event", x.send(p, true), -1);
            due.is("receive as the ninth event", x.receive(p, 4, true), -1);
            due.is("events after the refused ones", x.events(p), 8);
            due.is("no ninth state", x.knows(p, 9, p), -1);
            due.is("no good state", x.possibly(1 << p), 0);
            due.is("the eighth event of another process", x.step(other, false), 8);
            due.is("the first event of the third process", x.receive(3 - p - other, 4, false), 1);
        }
    }

    // "none at the start"
    private static void noEventsAtTheStart(Due due) {
        CutWatch x = new CutWatch();
        for (int p = 0; p < 3; p++) {
            due.is("events(" + p + ")", x.events(p), 0);
            due.is("knows(" + p + ", 1, " + p + ")", x.knows(p, 1, p), -1);
            due.is("the first event of " + p, x.step(p, false), 1);
        }
    }

    // "The event number k of a process (k from 1) leads from its state k - 1 to its state k."
    private static void eventsLeadToTheNextState(Due due) {
        for (int p = 0; p < 3; p++) {
            for (int good = 1; good <= 8; good++) {
                CutWatch x = new CutWatch();
                for (int k = 1; k <= 8; k++) {
                    x.step(p, k == good);
                    due.is("good in state " + good + " after event " + k, x.possibly(1 << p), k >= good ? 1 : 0);
                }
                due.is("the good state", x.least(1 << p, p), good);
            }
        }
    }

    // "state 0 of each process is not good at the start"
    private static void notGoodAtTheStart(Due due) {
        for (int set = 1; set <= 7; set++) {
            CutWatch x = new CutWatch();
            due.is("possibly(" + set + ")", x.possibly(set), 0);
            due.is("definitely(" + set + ")", x.definitely(set), 0);
            for (int p = 0; p < 3; p++) {
                x.step(p, true);
            }
            for (int p = 0; p < 3; p++) {
                due.is("least(" + set + ", " + p + ")", x.least(set, p), set >> p & 1);
            }
        }
    }

    // "messages are numbered from 0"
    private static void messagesAreNumberedFrom0(Due due) {
        for (int p = 0; p < 3; p++) {
            int other = (p + 1) % 3;
            CutWatch x = new CutWatch();
            x.step(p, false);
            due.is("the first message", x.send(p, false), 0);
            due.is("receive(" + other + ", 1, false)", x.receive(other, 1, false), -1);
            due.is("receive(" + other + ", -1, false)", x.receive(other, -1, false), -1);
            due.is("receive(" + other + ", 0, false)", x.receive(other, 0, false), 1);
            due.is("the event it was sent by", x.knows(other, 1, p), 2);
        }
    }

    // "in the order in which they are sent": over all processes, and what is received or refused takes no number.
    private static void messagesAreNumberedAsTheyAreSent(Due due) {
        CutWatch x = new CutWatch();
        due.is("first, by 2", x.send(2, false), 0);
        due.is("second, by 0", x.send(0, false), 1);
        due.is("third, by 0", x.send(0, false), 2);
        due.is("refused", x.send(3, false), -1);
        due.is("received", x.receive(1, 1, false), 1);
        due.is("fourth, by 1", x.send(1, false), 3);
        due.is("fifth, by 2", x.send(2, false), 4);
        due.is("receive of the fifth", x.receive(1, 4, false), 3);
        due.is("of its sender", x.knows(1, 3, 2), 2);
        due.is("of another sender", x.knows(1, 3, 0), 1);
        due.is("receive of the sixth", x.receive(1, 5, false), -1);
    }

    // "each is received at most once"
    private static void receivedAtMostOnce(Due due) {
        for (int sender = 0; sender < 3; sender++) {
            int receiver = (sender + 1) % 3;
            int third = (sender + 2) % 3;
            CutWatch x = new CutWatch();
            x.send(sender, false);
            x.send(sender, false);
            due.is("receive", x.receive(receiver, 0, false), 1);
            due.is("receive again", x.receive(receiver, 0, true), -1);
            due.is("receive by the third", x.receive(third, 0, true), -1);
            due.is("receive by the sender", x.receive(sender, 0, true), -1);
            due.is("events of the receiver", x.events(receiver), 1);
            due.is("events of the third", x.events(third), 0);
            due.is("events of the sender", x.events(sender), 2);
            due.is("no good state", x.possibly(1) + x.possibly(2) + x.possibly(4), 0);
            due.is("receive of the next message", x.receive(third, 1, false), 1);
            due.is("receive of the first one, once more", x.receive(third, 0, false), -1);
        }
    }
}
