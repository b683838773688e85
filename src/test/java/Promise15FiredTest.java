public final class Promise15FiredTest {
    private static void countsFirings() {
        SdfScheduler x = Graphs.graph(3, Graphs.ch(0, 1, 2, 3));
        Checks.due("fired(0) before analyze()", x.fired(0), -1);
        x.analyze();
        Checks.due("schedule", Checks.schedule(x), "0 0 0 1 1 2");
        int[] fired = new int[3];
        int[] order = {0, 0, 0, 1, 1, 2};
        for (int i = 0; i < 60; i++) {
            for (int a = 0; a < 3; a++) {
                Checks.due("fired(" + a + ") after " + i + " steps", x.fired(a), fired[a]);
            }
            x.run(1);
            fired[order[i % 6]]++;
        }
        x.run(240);
        Checks.due("fired(0)", x.fired(0), 150);
        Checks.due("fired(1)", x.fired(1), 100);
        Checks.due("fired(2)", x.fired(2), 50);
        x.run(2);
        x.analyze();
        for (int a = 0; a < 3; a++) {
            Checks.due("fired(" + a + ") after analyze()", x.fired(a), 0);
        }
    }

    private static void wrongArguments() {
        SdfScheduler x = Graphs.graph(2);
        x.analyze();
        x.run(2);
        int[] wrong = {-1, 2, 9, 10, Integer.MIN_VALUE, Integer.MAX_VALUE};
        for (int a : wrong) {
            Checks.due("fired(" + a + ")", x.fired(a), -1);
        }
        Checks.due("fired(1)", x.fired(1), 1);
    }

    private static void withOtherVerdicts() {
        for (SdfScheduler x : Graphs.withoutExecutor()) {
            x.analyze();
            Checks.due("fired(0) with verdict " + x.verdict(), x.fired(0), -1);
        }
        SdfScheduler x = Graphs.graph(2);
        x.analyze();
        x.run(1);
        x.addActor();
        Checks.due("fired(0) after an edit", x.fired(0), -1);
    }

    public static void main(String[] args) {
        countsFirings();
        wrongArguments();
        withOtherVerdicts();
        Checks.finish();
    }
}
