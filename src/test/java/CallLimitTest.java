import java.util.function.ToIntFunction;

/** What it is: "An object is used for at most 512 calls after it has been made": the 512th is still answered as due. */
public final class CallLimitTest {
    private static final int CALLS = 512;

    public static void main(String[] args) {
        Due due = new Due();
        changesAlone(due);
        refusedOnes(due);
        questionsAlone(due);
        mixed(due);
        due.end();
    }

    private static void changesAlone(Due due) {
        CutWatch starts = new CutWatch();
        CutWatch steps = new CutWatch();
        CutWatch sends = new CutWatch();
        CutWatch receives = new CutWatch();
        receives.send(0, false);
        for (int n = 1; n <= CALLS; n++) {
            due.is("start, call " + n, starts.start(n % 3, n % 2 == 0), 0);
            due.is("step, call " + n, steps.step(1, false), n <= 8 ? n : -1);
            due.is("send, call " + n, sends.send(n % 3, false), n <= 24 ? n - 1 : -1);
            if (n < CALLS) {
                due.is("receive, call " + n, receives.receive(1, 0, false), n == 1 ? 1 : -1);
            }
        }
    }

    private static void refusedOnes(Due due) {
        CutWatch x = new CutWatch();
        for (int n = 1; n < CALLS; n++) {
            due.is("refused call " + n, x.step(n % 2 == 0 ? 3 : -1, true), -1);
        }
        due.is("a step as the last call", x.step(0, true), 1);

        CutWatch y = new CutWatch();
        for (int n = 1; n < CALLS; n++) {
            due.is("refused call " + n, y.receive(0, n - 1, true), -1);
        }
        due.is("a send as the last call", y.send(0, true), 0);
    }

    private static void ask(Due due, String call, int want, ToIntFunction<CutWatch> asked) {
        CutWatch x = new CutWatch();
        for (int p = 0; p < 3; p++) {
            x.step(p, true);
        }
        for (int n = 4; n <= CALLS; n++) {
            due.is(call + ", call " + n, asked.applyAsInt(x), want);
        }
    }

    private static void questionsAlone(Due due) {
        ask(due, "knows(1, 1, 1)", 1, x -> x.knows(1, 1, 1));
        ask(due, "possibly(7)", 1, x -> x.possibly(7));
        ask(due, "least(7, 2)", 1, x -> x.least(7, 2));
        ask(due, "definitely(7)", 1, x -> x.definitely(7));
        ask(due, "cuts()", 8, CutWatch::cuts);
        ask(due, "events(2)", 1, x -> x.events(2));
    }

    private static void mixed(Due due) {
        CutWatch x = new CutWatch();
        for (int n = 0; n < 24; n++) {
            x.step(n % 3, n >= 21);
        }
        int calls = 24;
        while (calls + 4 < CALLS) {
            due.is("cuts() after " + calls + " calls", x.cuts(), 729);
            due.is("definitely(7) after " + calls + " calls", x.definitely(7), 1);
            due.is("least(7, 0) after " + calls + " calls", x.least(7, 0), 8);
            due.is("step(2, false) after " + calls + " calls", x.step(2, false), -1);
            calls += 4;
        }
        for (int p = 0; p < 3; p++) {
            due.is("start after " + (calls + p) + " calls", x.start(p, true), 0);
        }
        due.is("least(7, 0) after " + (calls + 3) + " calls", x.least(7, 0), 0);
    }
}
