/** Promise 7: possibly tells whether some possible cut is good for the set. */
public final class PossiblyTest {
    public static void main(String[] args) {
        Due due = new Due();
        looksAtTheSetAlone(due);
        looksAtPossibleCutsAlone(due);
        oneCutIsEnough(due);
        noneIsNotEnough(due);
        refusesNoSet(due);
        due.end();
    }

    private static void looksAtTheSetAlone(Due due) {
        for (int good = 0; good <= 7; good++) {
            CutWatch x = new CutWatch();
            for (int p = 0; p < 3; p++) {
                x.step(p, (good >> p & 1) == 1);
                x.step(p, false);
            }
            for (int set = 1; set <= 7; set++) {
                int want = (set & good) == set ? 1 : 0;
                due.is("possibly(" + set + ") with good " + good, x.possibly(set), want);
            }
        }
    }

    private static void looksAtPossibleCutsAlone(Due due) {
        // Process 0 is good only before it sends, process 1 only after it has received.
        CutWatch x = new CutWatch();
        x.start(0, true);
        x.send(0, false);
        x.receive(1, 0, true);
        due.is("possibly(3)", x.possibly(3), 0);
        due.is("possibly(1)", x.possibly(1), 1);
        due.is("possibly(2)", x.possibly(2), 1);
        x.step(0, true);
        due.is("possibly(3) once 0 is good again", x.possibly(3), 1);

        // The message goes by way of process 2, which is not in the set.
        CutWatch y = new CutWatch();
        y.start(0, true);
        y.send(0, false);
        y.receive(2, 0, false);
        y.send(2, false);
        y.receive(1, 1, true);
        due.is("possibly(3) by way of 2", y.possibly(3), 0);
    }

    // "1 if some possible cut is good": one alone, be it the first, the last or one between.
    private static void oneCutIsEnough(Due due) {
        for (int good = 0; good <= 8; good++) {
            CutWatch x = new CutWatch();
            for (int p = 0; p < 3; p++) {
                x.start(p, good == 0);
            }
            for (int k = 1; k <= 8; k++) {
                for (int p = 0; p < 3; p++) {
                    x.step(p, k == good);
                }
                for (int set = 1; set <= 7; set++) {
                    due.is("possibly(" + set + "), good in " + good + " of " + k, x.possibly(set), k >= good ? 1 : 0);
                }
            }
        }
    }

    // "else 0": no event at all, no good state, and a good state in a process outside the set.
    private static void noneIsNotEnough(Due due) {
        CutWatch x = new CutWatch();
        for (int set = 1; set <= 7; set++) {
            due.is("possibly(" + set + ") of a new object", x.possibly(set), 0);
        }
        for (int n = 0; n < 24; n++) {
            x.step(n % 3, n % 3 == 1);
        }
        for (int set = 1; set <= 7; set++) {
            due.is("possibly(" + set + ") with 1 good", x.possibly(set), set == 2 ? 1 : 0);
        }
    }

    // TermsRefusedTest looks at all that must not change.
    private static void refusesNoSet(Due due) {
        CutWatch x = new CutWatch();
        for (int p = 0; p < 3; p++) {
            x.start(p, true);
        }
        for (int set : Wrong.SETS) {
            due.is("possibly(" + set + ")", x.possibly(set), -1);
        }
        due.is("possibly(7)", x.possibly(7), 1);
    }
}
