/** The edges of promise 15, each sentence on its own; the wrap-around of the count is in Promise12WrapTest. */
public final class Promise15EdgesTest {
    /** "when the verdict is V_OK and a is an existing actor ... Otherwise it answers -1." */
    private static void everyVerdictAndArgument() {
        // One period fires actor 0 twice and actor 1 three times; two steps more fire actor 0.
        int[] due = {4, 3};
        for (int verdict : States.ALL) {
            SdfScheduler x = States.of(verdict);
            for (int a = -2; a <= 30; a++) {
                boolean shown = verdict == SdfScheduler.V_OK && (a == 0 || a == 1);
                Checks.due("fired(" + a + ") with verdict " + verdict, x.fired(a), shown ? due[a] : -1);
            }
            for (int a : States.FAR_OFF) {
                Checks.due("fired(" + a + ") with verdict " + verdict, x.fired(a), -1);
            }
        }
    }

    /** The last actor and the next, up to a full table. */
    private static void lastActorAndTheNext() {
        for (int actors = 1; actors <= 10; actors++) {
            SdfScheduler x = Graphs.graph(actors);
            x.analyze();
            Checks.due("fired of the last, before a step", x.fired(actors - 1), 0);
            x.run(actors);
            Checks.due("fired of the last", x.fired(actors - 1), 1);
            Checks.due("fired of the next", x.fired(actors), -1);
            Checks.due("fired(-1)", x.fired(-1), -1);
        }
    }

    /** "since the last analyze()": not since an earlier one, and not since an edit or clear(). */
    private static void countedSinceAnalyze() {
        SdfScheduler x = Graphs.graph(2, Graphs.ch(0, 1, 1, 1));
        for (int round = 0; round < 3; round++) {
            x.analyze();
            Checks.due("fired(0) after analyze()", x.fired(0), 0);
            Checks.due("fired(1) after analyze()", x.fired(1), 0);
            x.run(7);
            Checks.due("fired(0)", x.fired(0), 4);
            Checks.due("fired(1)", x.fired(1), 3);
        }
        x.setTokens(0, 0);
        x.analyze();
        Checks.due("fired(0) after an edit and analyze()", x.fired(0), 0);
        x.run(3);
        x.clear();
        x.addActor();
        x.analyze();
        Checks.due("fired(0) after clear() and analyze()", x.fired(0), 0);
        x.run(256);
        Checks.due("fired(0) after run(256)", x.fired(0), 256);
    }

    /** "It changes nothing." */
    private static void changesNothing() {
        for (int verdict : States.ALL) {
            States.asked("fired()", verdict, x -> {
                for (int a : States.FAR_OFF) {
                    x.fired(a);
                }
                for (int a = 0; a <= 10; a++) {
                    x.fired(a);
                }
            });
        }
    }

    public static void main(String[] args) {
        everyVerdictAndArgument();
        lastActorAndTheNext();
        countedSinceAnalyze();
        changesNothing();
        Checks.finish();
    }
}
