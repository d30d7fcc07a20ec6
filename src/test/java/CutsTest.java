/** Promise 10: cuts counts the possible cuts, good or not. */
public final class CutsTest {
    public static void main(String[] args) {
        Due due = new Due();
        withoutMessages(due);
        withMessages(due);
        pingPong(due);
        fewestOf24Events(due);
        goodOrNot(due);
        due.end();
    }

    // "How many possible cuts there are": from 1, with no event, to 729, with 8 events each and no message received.
    private static void withoutMessages(Due due) {
        CutWatch x = new CutWatch();
        due.is("cuts of a new object", x.cuts(), 1);
        int[] sizes = {1, 1, 1};
        for (int n = 0; n < 24; n++) {
            int p = n % 3;
            x.step(p, n % 2 == 0);
            sizes[p]++;
            due.is("cuts after " + (n + 1) + " steps", x.cuts(), sizes[0] * sizes[1] * sizes[2]);
        }
    }

    private static void withMessages(Due due) {
        for (int p = 0; p < 3; p++) {
            int q = (p + 1) % 3;
            CutWatch x = new CutWatch();
            x.send(p, false);
            x.step(q, false);
            due.is("cuts with a message under way", x.cuts(), 4);
            x.receive(q, 0, false);
            due.is("cuts with the message received", x.cuts(), 5);
            x.step(3 - p - q, false);
            due.is("cuts with a third process apart", x.cuts(), 10);
        }
    }

    private static void pingPong(Due due) {
        CutWatch x = new CutWatch();
        for (int message = 0; message < 8; message++) {
            int p = message % 2;
            x.send(p, false);
            x.receive(1 - p, message, false);
            due.is("cuts of a row of events", x.cuts(), 2 * message + 3);
        }
    }

    // A message that goes round leaves but one order of the events.
    private static void fewestOf24Events(Due due) {
        CutWatch x = new CutWatch();
        for (int message = 0; message < 12; message++) {
            due.is("send " + message, x.send(message % 3, false), message);
            x.receive((message + 1) % 3, message, false);
        }
        due.is("events in all", x.events(0) + x.events(1) + x.events(2), 24);
        due.is("cuts of one row of 24 events", x.cuts(), 25);
    }

    private static void goodOrNot(Due due) {
        CutWatch x = new CutWatch();
        CutWatch y = new CutWatch();
        for (int p = 0; p < 3; p++) {
            x.start(p, true);
            x.step(p, true);
            y.step(p, false);
        }
        due.is("cuts with good states", x.cuts(), 8);
        due.is("cuts with bad states", y.cuts(), 8);
    }
}
