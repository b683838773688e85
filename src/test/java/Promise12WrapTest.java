/** Periods and firings wrap around: 2 to the power of 31 steps of a lone actor, some seconds of work. */
public final class Promise12WrapTest {
    public static void main(String[] args) {
        SdfScheduler x = Graphs.graph(1);
        Checks.due("analyze()", x.analyze(), SdfScheduler.V_OK);
        int calls = 1 << 23;
        for (int i = 1; i < calls; i++) {
            x.run(256);
        }
        Checks.due("run(255)", x.run(255), Integer.MAX_VALUE);
        Checks.due("fired(0)", x.fired(0), Integer.MAX_VALUE);
        Checks.due("run(1)", x.run(1), Integer.MIN_VALUE);
        Checks.due("fired(0)", x.fired(0), Integer.MIN_VALUE);
        Checks.due("run(2)", x.run(2), Integer.MIN_VALUE + 2);
        Checks.finish();
    }
}
