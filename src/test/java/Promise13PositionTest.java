public final class Promise13PositionTest {
    private static void goesRound() {
        SdfScheduler x = Graphs.graph(2, Graphs.ch(0, 1, 2, 3));
        Checks.due("position() before analyze()", x.position(), -1);
        x.analyze();
        for (int i = 0; i < 25; i++) {
            Checks.due("position() after " + i + " steps", x.position(), i % 5);
            Checks.due("position() asked again", x.position(), i % 5);
            x.run(1);
        }
        x.run(3);
        Checks.due("position()", x.position(), 3);
        x.analyze();
        Checks.due("position() after analyze()", x.position(), 0);
    }

    private static void aPeriodOfOne() {
        SdfScheduler x = Graphs.graph(1);
        x.analyze();
        Checks.due("position()", x.position(), 0);
        Checks.due("run(7)", x.run(7), 7);
        Checks.due("position()", x.position(), 0);
    }

    private static void aPeriodOf256() {
        SdfScheduler x = Graphs.graph(6, Graphs.PERIOD_OF_256);
        Checks.due("analyze()", x.analyze(), SdfScheduler.V_OK);
        Checks.due("run(255)", x.run(255), 0);
        Checks.due("position()", x.position(), 255);
        Checks.due("run(1)", x.run(1), 1);
        Checks.due("position()", x.position(), 0);
        Checks.due("run(256)", x.run(256), 2);
        Checks.due("position()", x.position(), 0);
    }

    private static void withOtherVerdicts() {
        for (SdfScheduler x : Graphs.withoutExecutor()) {
            x.analyze();
            Checks.due("position() with verdict " + x.verdict(), x.position(), -1);
        }
        SdfScheduler x = Graphs.graph(2);
        x.analyze();
        x.addActor();
        Checks.due("position() after an edit", x.position(), -1);
    }

    public static void main(String[] args) {
        goesRound();
        aPeriodOfOne();
        aPeriodOf256();
        withOtherVerdicts();
        Checks.finish();
    }
}
