import java.util.function.ToIntFunction;

/** Two objects with the same past: one also gets calls that must be refused, and both must then answer alike. */
final class Twins {
    private static final int MOST_CALLS = 512;

    private final Due due;
    private final String past;
    private final CutWatch called = new CutWatch();
    private final CutWatch spared = new CutWatch();
    private int calls = 24;

    Twins(Due due, Past past) {
        this.due = due;
        this.past = past.toString();
        past.on(called);
        past.on(spared);
    }

    void refuse(String call, ToIntFunction<CutWatch> refused) {
        calls++;
        due.is(past + ": " + call, refused.applyAsInt(called), -1);
    }

    /** Asks both objects all there is to ask, lets both go on in the same way, and asks again. */
    void answerAlike(String after) {
        String at = past + ", after " + after + ": ";
        askAll(at);
        goOn(at);
        askAll(at + "later, ");
        due.is(at + "calls beyond those that the document promises", calls > MOST_CALLS ? calls : 0, 0);
    }

    private void same(String call, ToIntFunction<CutWatch> asked) {
        calls++;
        due.is(call, asked.applyAsInt(called), asked.applyAsInt(spared));
    }

    private void askAll(String at) {
        same(at + "cuts()", CutWatch::cuts);
        for (int n = 0; n < 3; n++) {
            int p = n;
            same(at + "events(" + p + ")", x -> x.events(p));
            for (int m = 0; m < 27; m++) {
                int k = m / 3;
                int q = m % 3;
                same(at + "knows(" + p + ", " + k + ", " + q + ")", x -> x.knows(p, k, q));
            }
        }
        for (int n = 1; n <= 7; n++) {
            int set = n;
            same(at + "possibly(" + set + ")", x -> x.possibly(set));
            same(at + "definitely(" + set + ")", x -> x.definitely(set));
            same(at + "least(" + set + ", 0)", x -> x.least(set, 0));
            same(at + "least(" + set + ", 1)", x -> x.least(set, 1));
            same(at + "least(" + set + ", 2)", x -> x.least(set, 2));
        }
    }

    // Which messages are still there is told by receiving them alone.
    private void goOn(String at) {
        for (int n = 0; n < 72; n++) {
            int message = n / 3;
            int p = n % 3;
            same(at + "receive(" + p + ", " + message + ", false)", x -> x.receive(p, message, false));
        }
        for (int n = 0; n < 3; n++) {
            int p = n;
            same(at + "send(" + p + ", false)", x -> x.send(p, false));
            same(at + "step(" + p + ", true)", x -> x.step(p, true));
        }
    }
}
