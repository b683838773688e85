public final class Promise08VerdictTest {
    private static void shows(SdfScheduler x, int verdict) {
        Checks.due("verdict()", x.verdict(), verdict);
        Checks.due("verdict() asked again", x.verdict(), verdict);
    }

    private static void analyzed(SdfScheduler x, int verdict) {
        shows(x, SdfScheduler.V_NONE);
        x.analyze();
        shows(x, verdict);
    }

    private static void everyVerdict() {
        analyzed(Checks.graph(0), SdfScheduler.V_EMPTY);
        analyzed(Checks.graph(2, Checks.ch(0, 1, 1, 1)), SdfScheduler.V_OK);
        analyzed(Checks.graph(1, Checks.ch(0, 0, 1, 2)), SdfScheduler.V_INCONSISTENT);
        SdfScheduler tooLong = Checks.graph(7, Promise07AnalyzeTest.PERIOD_OF_256);
        analyzed(tooLong, SdfScheduler.V_TOO_LONG);
        analyzed(Checks.graph(1, Checks.ch(0, 0, 1, 1)), SdfScheduler.V_DEADLOCK);
        analyzed(Promise07AnalyzeTest.selfLoops(17, 32), SdfScheduler.V_TOO_BIG);
    }

    private static void everyEditEndsIt() {
        SdfScheduler x = Checks.graph(2, Checks.ch(0, 1, 1, 1, 1, 5));
        analyzed(x, SdfScheduler.V_OK);
        x.setTokens(0, 1);
        analyzed(x, SdfScheduler.V_OK);
        x.setCapacity(0, 5);
        analyzed(x, SdfScheduler.V_OK);
        x.addActor();
        analyzed(x, SdfScheduler.V_OK);
        x.addChannel(0, 1, 1, 1);
        analyzed(x, SdfScheduler.V_OK);
        x.run(200);
        x.run(0);
        x.setTokens(0, 6);
        x.setCapacity(0, 65);
        x.addChannel(0, 9, 1, 1);
        shows(x, SdfScheduler.V_OK);
        x.clear();
        analyzed(x, SdfScheduler.V_EMPTY);
    }

    private static void askingChangesNothing() {
        SdfScheduler x = Checks.graph(2, Checks.ch(0, 1, 3, 2, 1));
        Checks.analyzeAndRun(x);
        String before = Checks.shown(x);
        x.verdict();
        Checks.due("all getters after all getters", Checks.shown(x), before);
    }

    public static void main(String[] args) {
        everyVerdict();
        everyEditEndsIt();
        askingChangesNothing();
        Checks.finish();
    }
}
