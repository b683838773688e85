public final class Promise08VerdictTest {
    private static void shows(SdfScheduler x, int verdict) {
        Checks.due("verdict()", x.verdict(), verdict);
        Checks.due("verdict() asked again", x.verdict(), verdict);
    }

    private static void analyzed(SdfScheduler x, int verdict) {
        shows(x, SdfScheduler.V_NONE);
        x.analyze();
        shows(x, verdict);
    }

    private static void everyVerdict() {
        analyzed(Graphs.graph(2, Graphs.ch(0, 1, 1, 1)), SdfScheduler.V_OK);
        int due = SdfScheduler.V_EMPTY;
        for (SdfScheduler x : Graphs.withoutExecutor()) {
            analyzed(x, due);
            due++;
        }
    }

    private static void everyEditEndsIt() {
        SdfScheduler x = Graphs.graph(2, Graphs.ch(0, 1, 1, 1, 1, 5));
        analyzed(x, SdfScheduler.V_OK);
        x.setTokens(0, 1);
        analyzed(x, SdfScheduler.V_OK);
        x.setCapacity(0, 5);
        analyzed(x, SdfScheduler.V_OK);
        x.addActor();
        analyzed(x, SdfScheduler.V_OK);
        x.addChannel(0, 1, 1, 1);
        analyzed(x, SdfScheduler.V_OK);
        x.run(200);
        x.run(0);
        x.setTokens(0, 6);
        x.setCapacity(0, 65);
        x.addChannel(0, 9, 1, 1);
        shows(x, SdfScheduler.V_OK);
        x.clear();
        analyzed(x, SdfScheduler.V_EMPTY);
    }

    private static void askingChangesNothing() {
        SdfScheduler x = Graphs.graph(2, Graphs.ch(0, 1, 3, 2, 1));
        Checks.analyzeAndRun(x);
        String before = Checks.shown(x);
        x.verdict();
        Checks.due("all getters after all getters", Checks.shown(x), before);
    }

    public static void main(String[] args) {
        everyVerdict();
        everyEditEndsIt();
        askingChangesNothing();
        Checks.finish();
    }
}
