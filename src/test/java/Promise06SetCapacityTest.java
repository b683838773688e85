public final class Promise06SetCapacityTest {
    private static SdfScheduler twoChannels() {
        return Graphs.graph(3, Graphs.ch(0, 1, 1, 1, 4), Graphs.ch(1, 2, 2, 1, 0, 9));
    }

    private static void refused(int ch, int cap) {
        String call = "setCapacity(" + ch + ", " + cap + ")";
        SdfScheduler x = twoChannels();
        Checks.analyzeAndRun(x);
        Checks.due("verdict()", x.verdict(), SdfScheduler.V_OK);
        Checks.changesNothing(call, x, twoChannels(), () -> Checks.due(call, x.setCapacity(ch, cap), false));
    }

    private static void wrongArgumentsAreRefused() {
        refused(-1, 0);
        refused(2, 0);
        refused(24, 5);
        refused(Integer.MIN_VALUE, 5);
        refused(Integer.MAX_VALUE, 5);
        refused(0, -1);
        refused(0, 65);
        refused(0, Integer.MIN_VALUE);
        refused(0, Integer.MAX_VALUE);
        refused(0, 1);
        refused(0, 3);
    }

    private static void taken(int ch, int cap, int verdict) {
        String call = "setCapacity(" + ch + ", " + cap + ")";
        SdfScheduler x = twoChannels();
        Checks.analyzeAndRun(x);
        Checks.due(call, x.setCapacity(ch, cap), true);
        Checks.due("after " + call, Checks.shown(x), Checks.shown(new SdfScheduler(2, 2)));
        Checks.due("run(1) after " + call, x.run(1), -1);
        Checks.due("analyze() after " + call, x.analyze(), verdict);
        Checks.due("bound(0) never below init(0), after " + call, x.bound(0) >= 4, true);
    }

    private static void edgesAreTaken() {
        taken(0, 0, SdfScheduler.V_OK);
        taken(0, 4, SdfScheduler.V_OK);
        taken(0, 5, SdfScheduler.V_OK);
        taken(0, 64, SdfScheduler.V_OK);
        taken(1, 0, SdfScheduler.V_OK);
        taken(1, 9, SdfScheduler.V_OK);
        taken(1, 2, SdfScheduler.V_OK);
        taken(1, 1, SdfScheduler.V_DEADLOCK);
    }

    private static void capacityHoldsAndZeroFrees() {
        SdfScheduler x = Graphs.graph(2, Graphs.ch(0, 1, 1, 8));
        x.analyze();
        Checks.due("bound(0)", x.bound(0), 8);
        x.setCapacity(0, 7);
        Checks.due("analyze() with capacity 7", x.analyze(), SdfScheduler.V_DEADLOCK);
        Checks.due("bound(0)", x.bound(0), 7);
        x.setCapacity(0, 8);
        Checks.due("analyze() with capacity 8", x.analyze(), SdfScheduler.V_OK);
        x.setCapacity(0, 7);
        x.setCapacity(0, 0);
        Checks.due("analyze() with capacity 0", x.analyze(), SdfScheduler.V_OK);
    }

    public static void main(String[] args) {
        wrongArgumentsAreRefused();
        edgesAreTaken();
        capacityHoldsAndZeroFrees();
        Checks.finish();
    }
}
