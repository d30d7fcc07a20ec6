/** Terms: the sentences about cuts, runs and sets, one test for each. */
public final class TermsCutsTest {
    public static void main(String[] args) {
        Due due = new Due();
        knowingAsManyIsPossible(due);
        anyTwoProcessesCount(due);
        firstCutIsPossible(due);
        lastCutIsPossible(due);
        goodForTheSetAlone(due);
        runBeginsWithAllStates0(due);
        runEndsWithAllLastStates(due);
        runGoesOneStateOfOneProcess(due);
        runHasPossibleCutsAlone(due);
        setsAre1To7(due);
        due.end();
    }

    // "POSSIBLE if no process in its state of the cut knows more events of another one": as many is possible.
    private static void knowingAsManyIsPossible(Due due) {
        for (int sent = 1; sent <= 8; sent++) {
            CutWatch x = new CutWatch();
            for (int k = 1; k < sent; k++) {
                x.step(0, false);
            }
            x.send(0, false);
            for (int k = sent + 1; k <= 8; k++) {
                x.step(0, false);
            }
            x.receive(1, 0, true);
            due.is("the state of 0 that 1 knows, sent by event " + sent, x.least(2, 0), sent);
            due.is("cuts()", x.cuts(), 9 + 9 - sent);
        }
    }

    // "no process ... of another one": each of the three may stand against each of the others.
    private static void anyTwoProcessesCount(Due due) {
        for (int p = 0; p < 3; p++) {
            for (int q = 0; q < 3; q++) {
                if (p != q) {
                    CutWatch x = new CutWatch();
                    x.start(p, true);
                    x.send(p, false);
                    x.receive(q, 0, true);
                    due.is("cuts with a message of " + p + " to " + q, x.cuts(), 3);
                    due.is("before the sending and after the receiving", x.possibly(1 << p | 1 << q), 0);
                }
            }
        }
    }

    private static void mixedEvents(CutWatch x, boolean lastGood) {
        x.send(0, false);
        x.receive(1, 0, false);
        x.send(1, false);
        x.receive(2, 1, false);
        x.send(2, false);
        x.send(1, lastGood);
        x.receive(0, 3, false);
        x.receive(0, 2, lastGood);
        x.step(2, lastGood);
    }

    // "The cut of all states 0 is possible"
    private static void firstCutIsPossible(Due due) {
        CutWatch x = new CutWatch();
        for (int p = 0; p < 3; p++) {
            x.start(p, true);
        }
        due.is("cuts of a new object", x.cuts(), 1);
        due.is("possibly(7) of a new object", x.possibly(7), 1);
        mixedEvents(x, false);
        due.is("possibly(7) after events", x.possibly(7), 1);
        for (int p = 0; p < 3; p++) {
            due.is("least(7, " + p + ")", x.least(7, p), 0);
        }
    }

    // "and so is that of all last states"
    private static void lastCutIsPossible(Due due) {
        CutWatch x = new CutWatch();
        mixedEvents(x, true);
        due.is("possibly(7)", x.possibly(7), 1);
        for (int p = 0; p < 3; p++) {
            due.is("least(7, " + p + ")", x.least(7, p), x.events(p));
        }

        CutWatch full = new CutWatch();
        for (int n = 0; n < 8; n++) {
            full.send(0, n == 7);
            full.receive(1, n, n == 7);
            full.step(2, n == 7);
        }
        due.is("possibly(7) with 8 events each", full.possibly(7), 1);
        for (int p = 0; p < 3; p++) {
            due.is("least(7, " + p + ") with 8 events each", full.least(7, p), 8);
        }
    }

    // "a cut is GOOD if the states of all processes of the set in it are good": all of these, and no other.
    private static void goodForTheSetAlone(Due due) {
        for (int good = 0; good <= 7; good++) {
            CutWatch x = new CutWatch();
            for (int p = 0; p < 3; p++) {
                x.start(p, (good >> p & 1) == 1);
            }
            for (int set = 1; set <= 7; set++) {
                int want = (set & good) == set ? 1 : 0;
                due.is("possibly(" + set + ") with good " + good, x.possibly(set), want);
                due.is("definitely(" + set + ") with good " + good, x.definitely(set), want);
                due.is("least(" + set + ", 0) with good " + good, x.least(set, 0), want - 1);
            }
        }
    }

    // "begins with the cut of all states 0"
    private static void runBeginsWithAllStates0(Due due) {
        CutWatch x = new CutWatch();
        for (int p = 0; p < 3; p++) {
            x.start(p, true);
        }
        mixedEvents(x, false);
        due.is("good in the first cut alone", x.definitely(7), 1);
        x.start(1, false);
        due.is("nowhere good", x.definitely(7), 0);
    }

    // "ends with that of all last states"
    private static void runEndsWithAllLastStates(Due due) {
        CutWatch x = new CutWatch();
        mixedEvents(x, true);
        due.is("good in the last cut alone", x.definitely(7), 1);
        x.step(1, false);
        due.is("1 may go on before the others are good", x.definitely(7), 0);
    }

    // "goes from each cut to one in which exactly one process is one state further"
    private static void runGoesOneStateOfOneProcess(Due due) {
        for (int p = 0; p < 3; p++) {
            int q = (p + 1) % 3;
            // Between the first cut and the last one lies one possible cut, the good one.
            CutWatch x = new CutWatch();
            x.start(q, true);
            x.send(p, true);
            x.receive(q, 0, false);
            due.is("no two processes at once", x.definitely(1 << p | 1 << q), 1);

            // Any one of eight states may be the good one: a run leaves none of them out.
            for (int good = 0; good <= 8; good++) {
                CutWatch y = new CutWatch();
                y.start(p, good == 0);
                for (int k = 1; k <= 8; k++) {
                    y.step(p, k == good);
                    y.step(q, false);
                }
                due.is("no two states at once, state " + good, y.definitely(1 << p), 1);
            }
        }
    }

    // "A RUN is a row of possible cuts"
    private static void runHasPossibleCutsAlone(Due due) {
        // 1 is good until it hears of event 2 of 0, and 0 is good from event 1 to event 2: only an impossible cut is
        // without a good one before it.
        CutWatch x = new CutWatch();
        x.start(1, true);
        x.step(0, true);
        x.send(0, true);
        x.step(0, false);
        x.receive(1, 0, false);
        due.is("1 cannot be done before 0 is good", x.definitely(3), 1);

        CutWatch y = new CutWatch();
        y.start(1, true);
        y.step(0, true);
        y.send(0, true);
        y.step(0, false);
        y.step(1, false);
        due.is("without the message it can", y.definitely(3), 0);
    }

    // "Sets of processes are written as the sum of 2^p over their processes (1 to 7)."
    private static void setsAre1To7(Due due) {
        CutWatch x = new CutWatch();
        for (int k = 1; k <= 3; k++) {
            for (int p = 0; p < 3; p++) {
                x.step(p, k == p + 1);
            }
        }
        for (int set = 1; set <= 7; set++) {
            due.is("possibly(" + set + ")", x.possibly(set), 1);
            due.is("definitely(" + set + ")", x.definitely(set), Integer.bitCount(set) == 1 ? 1 : 0);
            for (int p = 0; p < 3; p++) {
                due.is("least(" + set + ", " + p + ")", x.least(set, p), (set >> p & 1) * (p + 1));
            }
        }
        due.is("possibly(0)", x.possibly(0), -1);
        due.is("possibly(8)", x.possibly(8), -1);
        due.is("definitely(0)", x.definitely(0), -1);
        due.is("definitely(8)", x.definitely(8), -1);
        due.is("least(0, 0)", x.least(0, 0), -1);
        due.is("least(8, 0)", x.least(8, 0), -1);
    }
}
