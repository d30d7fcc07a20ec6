/** Promise 10: cuts counts the possible cuts, good or not. */
public final class CutsTest {
    public static void main(String[] args) {
        Due due = new Due();
        withoutMessages(due);
        withMessages(due);
        pingPong(due);
        due.end();
    }

    private static void withoutMessages(Due due) {
        CutWatch x = new CutWatch();
        due.is("cuts of a new object", x.cuts(), 1);
        int[] sizes = {1, 1, 1};
        for (int n = 0; n < 24; n++) {
            int p = n % 3;
            x.step(p, n % 2 == 0);
            sizes[p]++;
            due.is("cuts after " + (n + 1) + " steps", x.cuts(), sizes[0] * sizes[1] * sizes[2]);
        }
    }

    private static void withMessages(Due due) {
        for (int p = 0; p < 3; p++) {
            int q = (p + 1) % 3;
            CutWatch x = new CutWatch();
            x.send(p, false);
            x.step(q, false);
            due.is("cuts with a message under way", x.cuts(), 4);
            x.receive(q, 0, false);
            due.is("cuts with the message received", x.cuts(), 5);
            x.step(3 - p - q, false);
            due.is("cuts with a third process apart", x.cuts(), 10);
        }
    }

    private static void pingPong(Due due) {
        CutWatch x = new CutWatch();
        for (int message = 0; message < 8; message++) {
            int p = message % 2;
            x.send(p, false);
            x.receive(1 - p, message, false);
            due.is("cuts of a row of events", x.cuts(), 2 * message + 3);
        }
    }
}
