/** Promise 1: a new object has no event and no message, and no good state. */
public final class NewObjectTest {
    public static void main(String[] args) {
        Due due = new Due();
        CutWatch x = new CutWatch();
        for (int p = 0; p < 3; p++) {
            due.is("events(" + p + ")", x.events(p), 0);
            due.is("receive(" + p + ", 0, true)", x.receive(p, 0, true), -1);
            for (int q = 0; q < 3; q++) {
                due.is("knows(" + p + ", 0, " + q + ")", x.knows(p, 0, q), 0);
                due.is("knows(" + p + ", 1, " + q + ")", x.knows(p, 1, q), -1);
            }
        }
        for (int set = 1; set <= 7; set++) {
            due.is("possibly(" + set + ")", x.possibly(set), 0);
            due.is("definitely(" + set + ")", x.definitely(set), 0);
            for (int p = 0; p < 3; p++) {
                due.is("least(" + set + ", " + p + ")", x.least(set, p), -1);
            }
        }
        due.is("cuts()", x.cuts(), 1);

        x.step(0, true);
        x.send(1, true);
        CutWatch other = new CutWatch();
        due.is("events(0) of another object", other.events(0), 0);
        due.is("send(2, true) of another object", other.send(2, true), 0);
        due.end();
    }
}
