public final class Promise03AddActorTest {
    private static void numbersInOrderUntilFull() {
        SdfScheduler x = new SdfScheduler(4, 1);
        for (int a = 0; a < 4; a++) {
            Checks.due("addActor()", x.addActor(), a);
        }
        Checks.due("addActor()", x.addActor(), -1);
        Checks.due("addActor()", x.addActor(), -1);
    }

    private static void refusedChangesNothing() {
        SdfScheduler x = new SdfScheduler(2, 2);
        SdfScheduler twin = new SdfScheduler(2, 2);
        Graphs.fill(x, 2, Graphs.ch(0, 1, 3, 2));
        Graphs.fill(twin, 2, Graphs.ch(0, 1, 3, 2));
        Checks.analyzeAndRun(x);
        Checks.due("verdict()", x.verdict(), SdfScheduler.V_OK);
        Checks.changesNothing("a refused addActor()", x, twin,
            () -> Checks.due("addActor()", x.addActor(), -1));
    }

    private static void successDiscardsResults() {
        SdfScheduler x = Graphs.graph(2, Graphs.ch(0, 1, 3, 2, 4, 20));
        Checks.analyzeAndRun(x);
        Checks.due("addActor()", x.addActor(), 2);
        Checks.due("after addActor()", Checks.shown(x), Checks.shown(new SdfScheduler(2, 2)));
        Checks.due("run(1)", x.run(1), -1);
        Checks.due("analyze()", x.analyze(), SdfScheduler.V_OK);
        Checks.due("repetitions(0)", x.repetitions(0), 2);
        Checks.due("repetitions(1)", x.repetitions(1), 3);
        Checks.due("repetitions(2), without a channel", x.repetitions(2), 1);
        Checks.due("tokenCount(0)", x.tokenCount(0), 4);
        Checks.due("setTokens(0, 21), above the capacity kept", x.setTokens(0, 21), false);
    }

    public static void main(String[] args) {
        numbersInOrderUntilFull();
        refusedChangesNothing();
        successDiscardsResults();
        Checks.finish();
    }
}
