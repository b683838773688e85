/** The edges of promise 13, each sentence on its own. */
public final class Promise13EdgesTest {
    /** "when the verdict is V_OK ... Otherwise it answers -1." */
    private static void withEveryVerdict() {
        for (int verdict : States.ALL) {
            SdfScheduler x = States.of(verdict);
            int due = verdict == SdfScheduler.V_OK ? 2 : -1;
            Checks.due("position() with verdict " + verdict, x.position(), due);
        }
    }

    /** "a value in 0..scheduleLength()-1": the last one, and back to 0, for periods of each length. */
    private static void lastPlaceAndBack() {
        for (int length = 1; length <= 10; length++) {
            aPeriodOf(length, Graphs.graph(length));
        }
        aPeriodOf(255, Graphs.graph(6, Graphs.ch(0, 1, 8, 1), Graphs.ch(1, 2, 8, 1), Graphs.ch(2, 3, 2, 1),
            Graphs.ch(1, 4, 6, 1), Graphs.ch(0, 5, 6, 1)));
        aPeriodOf(256, Graphs.graph(6, Graphs.PERIOD_OF_256));
    }

    private static void aPeriodOf(int length, SdfScheduler x) {
        Checks.due("analyze()", x.analyze(), SdfScheduler.V_OK);
        Checks.due("scheduleLength()", x.scheduleLength(), length);
        for (int i = 0; i <= 3 * length; i++) {
            Checks.due("position() of " + length, x.position(), i % length);
            x.run(1);
        }
        x.analyze();
        Checks.due("position() after analyze()", x.position(), 0);
        x.run(length);
        Checks.due("position() after a period", x.position(), 0);
        if (length > 1) {
            x.run(length - 1);
            Checks.due("position() before its end", x.position(), length - 1);
        }
    }

    /** "It changes nothing." */
    private static void changesNothing() {
        for (int verdict : States.ALL) {
            States.asked("position()", verdict, x -> {
                for (int i = 0; i < 5; i++) {
                    x.position();
                }
            });
        }
    }

    public static void main(String[] args) {
        withEveryVerdict();
        lastPlaceAndBack();
        changesNothing();
        Checks.finish();
    }
}
