/** Promise 9: definitely tells whether every run has a cut that is good for the set. */
public final class DefinitelyTest {
    public static void main(String[] args) {
        Due due = new Due();
        onlyCut(due);
        firstAndLastCut(due);
        oneProcess(due);
        oneRunIsEnoughAgainst(due);
        runsAround(due);
        messagesForce(due);
        askedAgain(due);
        refusesNoSet(due);
        due.end();
    }

    // "every run": with no event there is one run, of one cut.
    private static void onlyCut(Due due) {
        CutWatch x = new CutWatch();
        for (int set = 1; set <= 7; set++) {
            due.is("definitely(" + set + "), none good", x.definitely(set), 0);
        }
        for (int p = 0; p < 3; p++) {
            x.start(p, true);
            due.is("definitely(7), good up to " + p, x.definitely(7), p == 2 ? 1 : 0);
        }
        for (int set = 1; set <= 7; set++) {
            due.is("definitely(" + set + "), all good", x.definitely(set), 1);
        }
    }

    // "else 0": two processes with 8 events each, and all runs have a good cut but those that move q to its end first.
    private static void oneRunIsEnoughAgainst(Due due) {
        for (int set = 3; set <= 6; set++) {
            if (set != 4) {
                int p = set == 6 ? 1 : 0;
                int q = set == 3 ? 1 : 2;
                CutWatch x = new CutWatch();
                for (int k = 1; k <= 8; k++) {
                    x.step(p, true);
                    x.step(q, k < 8);
                }
                due.is("definitely(" + set + "), q first and p then", x.definitely(set), 0);
                due.is("possibly(" + set + ")", x.possibly(set), 1);
                x.start(p, true);
                due.is("definitely(" + set + "), p always good", x.definitely(set), 1);
            }
        }
    }

    private static void firstAndLastCut(Due due) {
        CutWatch x = new CutWatch();
        x.start(0, true);
        x.start(1, true);
        x.start(2, true);
        due.is("good in the only cut", x.definitely(7), 1);
        for (int p = 0; p < 3; p++) {
            x.step(p, false);
        }
        due.is("good in the first cut", x.definitely(7), 1);
        x.start(0, false);
        due.is("no longer good in the first cut", x.definitely(7), 0);
        for (int p = 0; p < 3; p++) {
            x.step(p, true);
        }
        due.is("good in the last cut", x.definitely(7), 1);
    }

    private static void oneProcess(Due due) {
        for (int p = 0; p < 3; p++) {
            CutWatch x = new CutWatch();
            x.step(p, true);
            x.step(p, false);
            x.step((p + 1) % 3, false);
            due.is("every run takes each state of " + p, x.definitely(1 << p), 1);
            due.is("the next one is never good", x.definitely(1 << (p + 1) % 3), 0);
        }
    }

    private static void runsAround(Due due) {
        CutWatch x = new CutWatch();
        x.step(0, true);
        x.step(0, false);
        x.step(1, true);
        due.is("the last state of 1 may come too late", x.definitely(3), 0);
        x.start(1, true);
        due.is("1 is always good", x.definitely(3), 1);
        x.step(1, false);
        due.is("1 may be done before 0 begins", x.definitely(3), 0);
        due.is("yet it may be", x.possibly(3), 1);
    }

    private static void messagesForce(Due due) {
        // 0 is good from its first event until it hears from 1, and 1 is good when it tells 0.
        CutWatch x = new CutWatch();
        x.send(0, true);
        x.receive(1, 0, true);
        x.send(1, false);
        x.receive(0, 1, false);
        due.is("definitely(3)", x.definitely(3), 1);

        // The same without the second message received: 0 may go on before 1 is good.
        CutWatch y = new CutWatch();
        y.send(0, true);
        y.receive(1, 0, true);
        y.send(1, false);
        y.step(0, false);
        due.is("definitely(3) without the answer", y.definitely(3), 0);
    }

    private static void askedAgain(Due due) {
        CutWatch x = new CutWatch();
        x.step(0, true);
        x.step(1, false);
        due.is("definitely(2)", x.definitely(2), 0);
        due.is("definitely(1)", x.definitely(1), 1);
        due.is("definitely(2) again", x.definitely(2), 0);
        due.is("definitely(3)", x.definitely(3), 0);
        due.is("definitely(1) again", x.definitely(1), 1);
    }

    // TermsRefusedTest looks at all that must not change.
    private static void refusesNoSet(Due due) {
        CutWatch x = new CutWatch();
        for (int p = 0; p < 3; p++) {
            x.start(p, true);
        }
        for (int set : Wrong.SETS) {
            due.is("definitely(" + set + ")", x.definitely(set), -1);
        }
        due.is("definitely(7)", x.definitely(7), 1);
    }
}
