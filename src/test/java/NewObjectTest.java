/** Promise 1: "No event, no message." */
public final class NewObjectTest {
    public static void main(String[] args) {
        Due due = new Due();
        noEvent(due);
        noMessage(due);
        noGoodState(due);
        sharesNothing(due);
        due.end();
    }

    // "No event"
    private static void noEvent(Due due) {
        CutWatch x = new CutWatch();
        due.is("cuts()", x.cuts(), 1);
        for (int p = 0; p < 3; p++) {
            due.is("events(" + p + ")", x.events(p), 0);
            for (int q = 0; q < 3; q++) {
                due.is("knows(" + p + ", 0, " + q + ")", x.knows(p, 0, q), 0);
                due.is("knows(" + p + ", 1, " + q + ")", x.knows(p, 1, q), -1);
            }
        }
    }

    // "no message"
    private static void noMessage(Due due) {
        CutWatch x = new CutWatch();
        for (int p = 0; p < 3; p++) {
            for (int message = -1; message <= 24; message++) {
                due.is("receive(" + p + ", " + message + ", true)", x.receive(p, message, true), -1);
            }
            due.is("events(" + p + ") after refused ones", x.events(p), 0);
        }
        due.is("the first message", x.send(1, false), 0);
    }

    private static void noGoodState(Due due) {
        CutWatch x = new CutWatch();
        for (int set = 1; set <= 7; set++) {
            due.is("possibly(" + set + ")", x.possibly(set), 0);
            due.is("definitely(" + set + ")", x.definitely(set), 0);
            for (int p = 0; p < 3; p++) {
                due.is("least(" + set + ", " + p + ")", x.least(set, p), -1);
            }
        }
    }

    private static void sharesNothing(Due due) {
        CutWatch x = new CutWatch();
        x.start(2, true);
        x.step(0, true);
        x.send(1, true);
        CutWatch other = new CutWatch();
        for (int p = 0; p < 3; p++) {
            due.is("events(" + p + ") of another object", other.events(p), 0);
            due.is("possibly of " + p + " in another object", other.possibly(1 << p), 0);
        }
        due.is("receive(0, 0, true) of another object", other.receive(0, 0, true), -1);
        due.is("send(2, true) of another object", other.send(2, true), 0);
        due.is("events(2) of the first object", x.events(2), 0);
        due.is("the next message of the first object", x.send(0, true), 1);
    }
}
