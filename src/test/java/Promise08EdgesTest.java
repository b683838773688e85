/** The edges of promise 8, each sentence on its own. */
public final class Promise08EdgesTest {
    /** "answers the current verdict": from the start, after each analysis, and after what ends it. */
    private static void everyVerdictAfterEveryOther() {
        for (int before : States.ALL) {
            for (int verdict : States.ALL) {
                SdfScheduler x = new SdfScheduler(7, 20);
                Graphs.fill(x, States.actors(before), States.channels(before));
                x.analyze();
                x.clear();
                Checks.due("verdict() after clear()", x.verdict(), SdfScheduler.V_NONE);
                Graphs.fill(x, States.actors(verdict), States.channels(verdict));
                Checks.due("verdict() before analyze()", x.verdict(), SdfScheduler.V_NONE);
                int due = verdict == SdfScheduler.V_NONE ? SdfScheduler.V_OK : verdict;
                Checks.due("analyze()", x.analyze(), due);
                Checks.due("verdict()", x.verdict(), due);
            }
        }
    }

    /** "It changes nothing", whatever the verdict. */
    private static void changesNothing() {
        for (int verdict : States.ALL) {
            States.asked("verdict()", verdict, x -> {
                for (int i = 0; i < 5; i++) {
                    Checks.due("verdict()", x.verdict(), verdict);
                }
            });
        }
    }

    /** run keeps V_OK, however long, and refused calls keep any verdict. */
    private static void runsAndRefusalsKeepIt() {
        SdfScheduler x = States.of(SdfScheduler.V_OK);
        for (int i = 0; i < 1000; i++) {
            x.run(256);
        }
        Checks.due("verdict() after many steps", x.verdict(), SdfScheduler.V_OK);
        for (int verdict : States.FILLED) {
            SdfScheduler y = States.of(verdict, 0, 0);
            y.addActor();
            y.addChannel(0, 0, 1, 1);
            y.setTokens(0, 21);
            y.setCapacity(0, 4);
            y.run(257);
            Checks.due("verdict() after refused calls", y.verdict(), verdict);
        }
    }

    public static void main(String[] args) {
        everyVerdictAfterEveryOther();
        changesNothing();
        runsAndRefusalsKeepIt();
        Checks.finish();
    }
}
