public final class Promise02ClearTest {
    private static void clearsEverything() {
        SdfScheduler x = Graphs.graph(3, Graphs.ch(0, 1, 2, 1, 3, 9), Graphs.ch(1, 2, 1, 1));
        Checks.due("analyze()", x.analyze(), SdfScheduler.V_OK);
        x.run(4);
        x.clear();
        Checks.due("after clear()", Checks.shown(x), Checks.shown(new SdfScheduler(3, 3)));
        Checks.due("run(1)", x.run(1), -1);
        Checks.due("setTokens(0, 0)", x.setTokens(0, 0), false);
        Checks.due("setCapacity(0, 0)", x.setCapacity(0, 0), false);
        Checks.due("addChannel(0, 0, 1, 1)", x.addChannel(0, 0, 1, 1), -1);
        Checks.due("analyze()", x.analyze(), SdfScheduler.V_EMPTY);
        x.clear();
        Checks.due("verdict() after V_EMPTY and clear()", x.verdict(), SdfScheduler.V_NONE);
    }

    /** What the old channel 0 had must not come back with the new one. */
    private static void newChannelsStartAnew() {
        SdfScheduler x = Graphs.graph(2, Graphs.ch(0, 1, 1, 1, 5, 5));
        Checks.due("analyze()", x.analyze(), SdfScheduler.V_OK);
        x.run(1);
        x.clear();
        Graphs.fill(x, 2, Graphs.ch(1, 0, 8, 1));
        SdfScheduler fresh = Graphs.graph(2, Graphs.ch(1, 0, 8, 1));
        Checks.due("analyze()", x.analyze(), SdfScheduler.V_OK);
        fresh.analyze();
        Checks.due("filled again", Checks.shown(x), Checks.shown(fresh));
        Checks.due("setCapacity(0, 1)", x.setCapacity(0, 1), true);
        Checks.due("setCapacity(0, 0)", x.setCapacity(0, 0), true);
        Checks.due("setTokens(0, 32)", x.setTokens(0, 32), true);
    }

    private static void tableSizesStay() {
        SdfScheduler x = new SdfScheduler(3, 2);
        for (int round = 0; round < 3; round++) {
            Graphs.fill(x, 3, Graphs.ch(0, 1, 1, 1), Graphs.ch(1, 2, 1, 1));
            Checks.due("addActor() when full", x.addActor(), -1);
            Checks.due("addChannel() when full", x.addChannel(0, 1, 1, 1), -1);
            x.clear();
            x.clear();
        }
    }

    public static void main(String[] args) {
        clearsEverything();
        newChannelsStartAnew();
        tableSizesStay();
        Checks.finish();
    }
}
