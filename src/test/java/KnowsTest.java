/** Promise 6: knows tells what a process knows in each of its states. */
public final class KnowsTest {
    public static void main(String[] args) {
        Due due = new Due();
        ofItself(due);
        passesOn(due);
        asOfTheSending(due);
        refuses(due);
        due.end();
    }

    private static void ofItself(Due due) {
        CutWatch x = new CutWatch();
        for (int k = 1; k <= 8; k++) {
            x.step(2, false);
        }
        for (int k = 0; k <= 8; k++) {
            due.is("knows(2, " + k + ", 2)", x.knows(2, k, 2), k);
            due.is("knows(2, " + k + ", 0)", x.knows(2, k, 0), 0);
            due.is("knows(2, " + k + ", 1)", x.knows(2, k, 1), 0);
        }
        due.is("knows(2, 9, 2)", x.knows(2, 9, 2), -1);
    }

    private static void passesOn(Due due) {
        CutWatch x = new CutWatch();
        x.step(0, false);
        x.step(0, false);
        x.send(0, false);
        x.receive(1, 0, false);
        x.step(1, false);
        x.send(1, false);
        x.step(2, false);
        x.receive(2, 1, false);
        x.step(2, false);
        due.is("before the message", x.knows(2, 1, 0), 0);
        due.is("of the sender", x.knows(2, 2, 1), 3);
        due.is("of the sender's sender", x.knows(2, 2, 0), 3);
        due.is("of itself", x.knows(2, 2, 2), 2);
        due.is("in the state after", x.knows(2, 3, 1), 3);
        due.is("in the state after, at second hand", x.knows(2, 3, 0), 3);
        due.is("the sender learns nothing", x.knows(1, 3, 2), 0);
        x.send(2, false);
        x.receive(0, 2, false);
        due.is("back at the first, of itself", x.knows(0, 4, 0), 4);
        due.is("back at the first, of 1", x.knows(0, 4, 1), 3);
        due.is("back at the first, of 2", x.knows(0, 4, 2), 4);
        due.is("its state before", x.knows(0, 3, 2), 0);
    }

    private static void asOfTheSending(Due due) {
        CutWatch x = new CutWatch();
        x.send(1, false);
        x.send(2, false);
        x.receive(1, 1, false);
        x.step(1, false);
        x.receive(0, 0, false);
        due.is("of the sender's later events", x.knows(0, 1, 1), 1);
        due.is("of what the sender heard later", x.knows(0, 1, 2), 0);
    }

    private static void refuses(Due due) {
        CutWatch x = new CutWatch();
        x.step(0, false);
        for (int p : Wrong.PROCESSES) {
            due.is("knows(" + p + ", 0, 0)", x.knows(p, 0, 0), -1);
            due.is("knows(0, 0, " + p + ")", x.knows(0, 0, p), -1);
        }
        int[] states = {-1, 2, 8, 9, 10, -9, Integer.MIN_VALUE, Integer.MAX_VALUE};
        for (int k : states) {
            due.is("knows(0, " + k + ", 0)", x.knows(0, k, 0), -1);
            due.is("knows(0, " + k + ", 1)", x.knows(0, k, 1), -1);
        }
        due.is("knows(1, 1, 0)", x.knows(1, 1, 0), -1);
        due.is("knows(0, 1, 0)", x.knows(0, 1, 0), 1);
    }
}
