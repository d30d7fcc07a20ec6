/** Promise 11: events counts the events of a process, whatever they are. */
public final class EventsTest {
    public static void main(String[] args) {
        Due due = new Due();
        CutWatch x = new CutWatch();
        x.step(0, false);
        x.send(0, false);
        x.receive(1, 0, false);
        x.start(2, true);
        due.is("events(0)", x.events(0), 2);
        due.is("events(1)", x.events(1), 1);
        due.is("events(2)", x.events(2), 0);
        for (int k = 1; k <= 9; k++) {
            x.step(2, false);
            due.is("events(2)", x.events(2), Integer.min(k, 8));
        }
        for (int p : Wrong.PROCESSES) {
            due.is("events(" + p + ")", x.events(p), -1);
        }
        due.is("events(0) in the end", x.events(0), 2);
        due.end();
    }
}
