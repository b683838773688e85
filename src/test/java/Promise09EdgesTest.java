/** The edges of promise 9, each sentence on its own. */
public final class Promise09EdgesTest {
    private static boolean isShown(int verdict) {
        return verdict == SdfScheduler.V_OK || verdict == SdfScheduler.V_TOO_LONG
            || verdict == SdfScheduler.V_DEADLOCK || verdict == SdfScheduler.V_TOO_BIG;
    }

    /** "when the verdict is V_OK, V_TOO_LONG, V_DEADLOCK or V_TOO_BIG ... Otherwise it answers 0." */
    private static void everyVerdictAndArgument() {
        long[] two = {2, 3};
        long[] four = {1, 8, 64, 512};
        for (int verdict : States.ALL) {
            SdfScheduler x = States.of(verdict);
            long[] due = verdict == SdfScheduler.V_TOO_LONG ? four : two;
            for (int a = -2; a <= 30; a++) {
                boolean exists = a >= 0 && a < due.length;
                String call = "repetitions(" + a + ") with verdict " + verdict;
                Checks.due(call, x.repetitions(a), exists && isShown(verdict) ? due[a] : 0L);
            }
            for (int a : States.FAR_OFF) {
                Checks.due("repetitions(" + a + ") with verdict " + verdict, x.repetitions(a), 0L);
            }
        }
    }

    /** "a is an existing actor": the last one and the next, up to a full table. */
    private static void lastActorAndTheNext() {
        for (int actors = 1; actors <= 10; actors++) {
            SdfScheduler x = Graphs.graph(actors);
            Checks.due("analyze()", x.analyze(), SdfScheduler.V_OK);
            Checks.due("repetitions of the last", x.repetitions(actors - 1), 1L);
            Checks.due("repetitions of the next", x.repetitions(actors), 0L);
            Checks.due("repetitions(-1)", x.repetitions(-1), 0L);
        }
    }

    /** "an actor with no channel answers 1", with each verdict that shows it. */
    private static void lonelyActor() {
        for (int verdict : States.FILLED) {
            if (isShown(verdict)) {
                SdfScheduler x = States.of(verdict);
                int a = x.addActor();
                Checks.due("analyze()", x.analyze(), verdict);
                Checks.due("repetitions of an actor without a channel", x.repetitions(a), 1L);
            }
        }
    }

    /** "Every answered q(a) is at least 1", and the least: also of rates that share a divisor. */
    private static void leastOfEveryPairOfRates() {
        for (int p = 1; p <= 8; p++) {
            for (int c = 1; c <= 8; c++) {
                SdfScheduler x = Graphs.graph(2, Graphs.ch(0, 1, p, c));
                x.analyze();
                long q = 1;
                while (q * p % c != 0) {
                    q++;
                }
                Checks.due("repetitions(0) of " + p + " to " + c, x.repetitions(0), q);
                Checks.due("repetitions(1) of " + p + " to " + c, x.repetitions(1), q * p / c);
            }
        }
    }

    /** "in each connected part separately": the long part doesn't stretch the short one. */
    private static void partsAreApart() {
        SdfScheduler x = Graphs.graph(9,
            Graphs.ch(8, 7, 8, 1), Graphs.ch(7, 6, 8, 1), Graphs.ch(5, 4, 1, 7), Graphs.ch(3, 2, 6, 4),
            Graphs.ch(1, 1, 5, 5, 5));
        x.analyze();
        long[] due = {1, 1, 3, 2, 1, 7, 64, 8, 1};
        for (int a = 0; a < 9; a++) {
            Checks.due("repetitions(" + a + ")", x.repetitions(a), due[a]);
        }
    }

    /** "With at most 10 actors every q fits a long": the greatest of all is 8 to the power of 9. */
    private static void theGreatest() {
        SdfScheduler x = Graphs.graph(10);
        for (int c = 0; c < 9; c++) {
            x.addChannel(c + 1, c, 1, 8);
        }
        Checks.due("analyze()", x.analyze(), SdfScheduler.V_TOO_LONG);
        long due = 1;
        for (int a = 0; a < 10; a++) {
            Checks.due("repetitions(" + a + ")", x.repetitions(a), due);
            due *= 8;
        }
        Checks.due("repetitions(9)", x.repetitions(9), 134217728L);
    }

    /** "The call changes nothing." */
    private static void changesNothing() {
        for (int verdict : States.ALL) {
            States.asked("repetitions()", verdict, x -> {
                for (int a : States.FAR_OFF) {
                    x.repetitions(a);
                }
                for (int a = 0; a <= 10; a++) {
                    x.repetitions(a);
                }
            });
        }
    }

    public static void main(String[] args) {
        everyVerdictAndArgument();
        lastActorAndTheNext();
        lonelyActor();
        leastOfEveryPairOfRates();
        partsAreApart();
        theGreatest();
        changesNothing();
        Checks.finish();
    }
}
