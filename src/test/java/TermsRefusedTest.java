/**
 * Terms: "Process numbers out of range, and other sets, are refused: the call answers -1 and changes nothing."
 * Every method that takes a process or a set is called wrongly, in every past.
 */
public final class TermsRefusedTest {
    public static void main(String[] args) {
        Due due = new Due();
        for (Past past : Past.values()) {
            startOfNoProcess(due, past);
            stepOfNoProcess(due, past);
            sendOfNoProcess(due, past);
            receiveOfNoProcess(due, past);
            knowsOfNoProcess(due, past);
            knowsAboutNoProcess(due, past);
            leastOfNoProcess(due, past);
            eventsOfNoProcess(due, past);
            possiblyOfNoSet(due, past);
            leastOfNoSet(due, past);
            definitelyOfNoSet(due, past);
        }
        due.end();
    }

    private static void startOfNoProcess(Due due, Past past) {
        Twins twins = new Twins(due, past);
        for (int p : Wrong.PROCESSES) {
            twins.refuse("start(" + p + ", true)", x -> x.start(p, true));
            twins.refuse("start(" + p + ", false)", x -> x.start(p, false));
        }
        twins.answerAlike("start of no process");
    }

    private static void stepOfNoProcess(Due due, Past past) {
        Twins twins = new Twins(due, past);
        for (int p : Wrong.PROCESSES) {
            twins.refuse("step(" + p + ", true)", x -> x.step(p, true));
            twins.refuse("step(" + p + ", false)", x -> x.step(p, false));
        }
        twins.answerAlike("step of no process");
    }

    private static void sendOfNoProcess(Due due, Past past) {
        Twins twins = new Twins(due, past);
        for (int p : Wrong.PROCESSES) {
            twins.refuse("send(" + p + ", true)", x -> x.send(p, true));
            twins.refuse("send(" + p + ", false)", x -> x.send(p, false));
        }
        twins.answerAlike("send of no process");
    }

    private static void receiveOfNoProcess(Due due, Past past) {
        Twins twins = new Twins(due, past);
        for (int p : Wrong.PROCESSES) {
            for (int message = 0; message < 4; message++) {
                int wanted = message;
                twins.refuse("receive(" + p + ", " + wanted + ", true)", x -> x.receive(p, wanted, true));
            }
            twins.refuse("receive(" + p + ", 0, false)", x -> x.receive(p, 0, false));
        }
        twins.answerAlike("receive of no process");
    }

    private static void knowsOfNoProcess(Due due, Past past) {
        Twins twins = new Twins(due, past);
        for (int p : Wrong.PROCESSES) {
            twins.refuse("knows(" + p + ", 0, 0)", x -> x.knows(p, 0, 0));
            twins.refuse("knows(" + p + ", 0, 2)", x -> x.knows(p, 0, 2));
            twins.refuse("knows(" + p + ", 1, 1)", x -> x.knows(p, 1, 1));
            twins.refuse("knows(" + p + ", 0, " + p + ")", x -> x.knows(p, 0, p));
        }
        twins.answerAlike("knows of no process");
    }

    private static void knowsAboutNoProcess(Due due, Past past) {
        Twins twins = new Twins(due, past);
        for (int q : Wrong.PROCESSES) {
            twins.refuse("knows(0, 0, " + q + ")", x -> x.knows(0, 0, q));
            twins.refuse("knows(1, 0, " + q + ")", x -> x.knows(1, 0, q));
            twins.refuse("knows(2, 0, " + q + ")", x -> x.knows(2, 0, q));
            twins.refuse("knows(1, 1, " + q + ")", x -> x.knows(1, 1, q));
        }
        twins.answerAlike("knows about no process");
    }

    private static void leastOfNoProcess(Due due, Past past) {
        Twins twins = new Twins(due, past);
        for (int p : Wrong.PROCESSES) {
            for (int n = 1; n <= 7; n++) {
                int set = n;
                twins.refuse("least(" + set + ", " + p + ")", x -> x.least(set, p));
            }
        }
        twins.answerAlike("least of no process");
    }

    private static void eventsOfNoProcess(Due due, Past past) {
        Twins twins = new Twins(due, past);
        for (int p : Wrong.PROCESSES) {
            twins.refuse("events(" + p + ")", x -> x.events(p));
        }
        twins.answerAlike("events of no process");
    }

    private static void possiblyOfNoSet(Due due, Past past) {
        Twins twins = new Twins(due, past);
        for (int set : Wrong.SETS) {
            twins.refuse("possibly(" + set + ")", x -> x.possibly(set));
        }
        twins.answerAlike("possibly of no set");
    }

    private static void leastOfNoSet(Due due, Past past) {
        Twins twins = new Twins(due, past);
        for (int set : Wrong.SETS) {
            twins.refuse("least(" + set + ", 0)", x -> x.least(set, 0));
            twins.refuse("least(" + set + ", 1)", x -> x.least(set, 1));
            twins.refuse("least(" + set + ", 2)", x -> x.least(set, 2));
            twins.refuse("least(" + set + ", 3)", x -> x.least(set, 3));
        }
        twins.answerAlike("least of no set");
    }

    private static void definitelyOfNoSet(Due due, Past past) {
        Twins twins = new Twins(due, past);
        for (int set : Wrong.SETS) {
            twins.refuse("definitely(" + set + ")", x -> x.definitely(set));
        }
        twins.answerAlike("definitely of no set");
    }
}
