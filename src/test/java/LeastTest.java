/** Promise 8: least tells each process's state in the least possible cut that is good for the set. */
public final class LeastTest {
    public static void main(String[] args) {
        Due due = new Due();
        raisesOthers(due);
        skipsImpossible(due);
        noneThere(due);
        lastStates(due);
        refuses(due);
        due.end();
    }

    private static void least(Due due, CutWatch x, int set, int[] cut) {
        for (int p = 0; p < 3; p++) {
            due.is("least(" + set + ", " + p + ")", x.least(set, p), cut[p]);
        }
    }

    private static void raisesOthers(Due due) {
        CutWatch x = new CutWatch();
        x.step(0, false);
        x.send(0, false);
        x.receive(1, 0, false);
        x.send(1, false);
        x.receive(2, 1, true);
        least(due, x, 4, new int[] {2, 2, 1});
        x.start(0, true);
        least(due, x, 1, new int[] {0, 0, 0});
        least(due, x, 5, new int[] {-1, -1, -1});
        x.step(0, true);
        least(due, x, 5, new int[] {3, 2, 1});
    }

    private static void skipsImpossible(Due due) {
        CutWatch x = new CutWatch();
        x.step(0, true);
        x.send(0, false);
        x.step(0, true);
        x.receive(1, 0, true);
        least(due, x, 3, new int[] {3, 1, 0});
        x.start(1, true);
        least(due, x, 3, new int[] {1, 0, 0});
        x.step(2, false);
        x.step(2, true);
        least(due, x, 7, new int[] {1, 0, 2});
    }

    private static void noneThere(Due due) {
        CutWatch x = new CutWatch();
        x.step(0, true);
        least(due, x, 2, new int[] {-1, -1, -1});
        least(due, x, 3, new int[] {-1, -1, -1});
        least(due, x, 1, new int[] {1, 0, 0});
    }

    private static void lastStates(Due due) {
        CutWatch x = new CutWatch();
        for (int k = 1; k <= 8; k++) {
            for (int p = 0; p < 3; p++) {
                x.step(p, k == 8);
            }
        }
        least(due, x, 7, new int[] {8, 8, 8});
        least(due, x, 2, new int[] {0, 8, 0});
    }

    private static void refuses(Due due) {
        CutWatch x = new CutWatch();
        for (int p = 0; p < 3; p++) {
            x.start(p, true);
        }
        for (int set : Wrong.SETS) {
            due.is("least(" + set + ", 0)", x.least(set, 0), -1);
        }
        for (int p : Wrong.PROCESSES) {
            due.is("least(7, " + p + ")", x.least(7, p), -1);
        }
        least(due, x, 7, new int[] {0, 0, 0});
    }
}
