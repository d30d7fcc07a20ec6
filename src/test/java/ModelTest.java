/** All promises at once: long mixed runs of calls, wrong ones among them, answer as the document's words do. */
public final class ModelTest {
    private static final int RUNS = 3000;
    // With a question after each change and all of them in the end, a run stays below the 512 calls of the document.
    private static final int MOST_CHANGES = 48;

    private final Due due = new Due();
    // A row of numbers that is the same each time, so that a failure can be seen again.
    private long row = 20261115L;

    public static void main(String[] args) {
        ModelTest test = new ModelTest();
        for (int run = 0; run < RUNS; run++) {
            test.oneRun(run);
        }
        test.due.end();
    }

    private int next(int bound) {
        row = row * 6364136223846793005L + 1442695040888963407L;
        return (int) ((row >>> 33) % bound);
    }

    private void oneRun(int run) {
        CutWatch x = new CutWatch();
        Model model = new Model();
        int changes = 1 + next(MOST_CHANGES);
        int goodOutOfTen = 1 + next(9);
        for (int n = 0; n < changes; n++) {
            String at = "run " + run + ", change " + n + ": ";
            change(at, x, model, next(10) < goodOutOfTen);
            askOne(at, x, model);
        }
        askAll("run " + run + ", end: ", x, model);
    }

    private void change(String at, CutWatch x, Model model, boolean good) {
        int p = next(20) == 0 ? next(9) - 4 : next(3);
        int kind = next(10);
        if (kind == 0) {
            due.is(at + "start(" + p + ", " + good + ")", x.start(p, good), model.start(p, good));
        } else if (kind < 3) {
            due.is(at + "step(" + p + ", " + good + ")", x.step(p, good), model.step(p, good));
        } else if (kind < 6) {
            due.is(at + "send(" + p + ", " + good + ")", x.send(p, good), model.send(p, good));
        } else {
            int message = next(14) - 1;
            due.is(at + "receive(" + p + ", " + message + ", " + good + ")",
                x.receive(p, message, good), model.receive(p, message, good));
        }
    }

    private void askOne(String at, CutWatch x, Model model) {
        int set = 1 + next(7);
        int p = next(3);
        int kind = next(4);
        if (kind == 0) {
            due.is(at + "definitely(" + set + ")", x.definitely(set), model.definitely(set));
        } else if (kind == 1) {
            due.is(at + "possibly(" + set + ")", x.possibly(set), model.possibly(set));
        } else if (kind == 2) {
            due.is(at + "least(" + set + ", " + p + ")", x.least(set, p), model.least(set, p));
        } else {
            due.is(at + "cuts()", x.cuts(), model.cuts());
        }
    }

    private void askAll(String at, CutWatch x, Model model) {
        due.is(at + "cuts()", x.cuts(), model.cuts());
        for (int p = -1; p <= 3; p++) {
            due.is(at + "events(" + p + ")", x.events(p), model.events(p));
            for (int k = -1; k <= 9; k++) {
                for (int q = -1; q <= 3; q++) {
                    due.is(at + "knows(" + p + ", " + k + ", " + q + ")", x.knows(p, k, q), model.knows(p, k, q));
                }
            }
        }
        for (int set = -1; set <= 9; set++) {
            due.is(at + "possibly(" + set + ")", x.possibly(set), model.possibly(set));
            due.is(at + "definitely(" + set + ")", x.definitely(set), model.definitely(set));
            for (int p = -1; p <= 3; p++) {
                due.is(at + "least(" + set + ", " + p + ")", x.least(set, p), model.least(set, p));
            }
        }
    }
}
