public final class Promise04AddChannelTest {
    private static SdfScheduler twoActors() {
        SdfScheduler x = new SdfScheduler(3, 4);
        Graphs.fill(x, 2, Graphs.ch(0, 1, 3, 2, 1));
        return x;
    }

    private static void refused(int src, int dst, int prod, int cons) {
        String call = "addChannel(" + src + ", " + dst + ", " + prod + ", " + cons + ")";
        SdfScheduler x = twoActors();
        Checks.analyzeAndRun(x);
        Checks.changesNothing(call, x, twoActors(),
            () -> Checks.due(call, x.addChannel(src, dst, prod, cons), -1));
        Checks.due("addChannel(1, 0, 2, 3) after " + call, x.addChannel(1, 0, 2, 3), 1);
    }

    private static void wrongArgumentsAreRefused() {
        int[] wrongActors = {-1, 2, 3, 10, Integer.MIN_VALUE, Integer.MAX_VALUE};
        for (int a : wrongActors) {
            refused(a, 0, 1, 1);
            refused(0, a, 1, 1);
            refused(a, a, 1, 1);
        }
        int[] wrongRates = {0, -1, 9, Integer.MIN_VALUE, Integer.MAX_VALUE};
        for (int rate : wrongRates) {
            refused(0, 1, rate, 1);
            refused(0, 1, 1, rate);
            refused(0, 1, rate, rate);
        }
    }

    private static void fullTableRefuses() {
        SdfScheduler x = new SdfScheduler(2, 2);
        SdfScheduler twin = new SdfScheduler(2, 2);
        Graphs.fill(x, 2, Graphs.ch(0, 1, 1, 1), Graphs.ch(1, 0, 1, 1, 1));
        Graphs.fill(twin, 2, Graphs.ch(0, 1, 1, 1), Graphs.ch(1, 0, 1, 1, 1));
        Checks.analyzeAndRun(x);
        Checks.changesNothing("addChannel() when full", x, twin,
            () -> Checks.due("addChannel(0, 1, 1, 1)", x.addChannel(0, 1, 1, 1), -1));
    }

    private static void everyRateIsTaken() {
        for (int prod = 1; prod <= 8; prod++) {
            for (int cons = 1; cons <= 8; cons++) {
                SdfScheduler x = Graphs.graph(2, Graphs.ch(0, 1, prod, cons));
                Checks.due("analyze()", x.analyze(), SdfScheduler.V_OK);
                Checks.due("balance", x.repetitions(0) * prod, x.repetitions(1) * cons);
                x.run(1);
                Checks.due("tokens of one firing", x.tokenCount(0), prod);
            }
        }
    }

    private static void selfLoopsAndParallelChannels() {
        SdfScheduler x = twoActors();
        Checks.due("parallel", x.addChannel(0, 1, 3, 2), 1);
        Checks.due("opposite", x.addChannel(1, 0, 2, 3), 2);
        Checks.due("self-loop", x.addChannel(1, 1, 8, 8), 3);
        Checks.due("full", x.addChannel(1, 1, 8, 8), -1);
    }

    private static void successDiscardsResults() {
        SdfScheduler x = twoActors();
        Checks.analyzeAndRun(x);
        Checks.due("addChannel(0, 1, 6, 4)", x.addChannel(0, 1, 6, 4), 1);
        Checks.due("after addChannel()", Checks.shown(x), Checks.shown(new SdfScheduler(2, 2)));
        Checks.due("run(1)", x.run(1), -1);
        Checks.due("analyze()", x.analyze(), SdfScheduler.V_OK);
        Checks.due("tokenCount(0)", x.tokenCount(0), 1);
        Checks.due("tokenCount(1), init 0", x.tokenCount(1), 0);
        Checks.due("bound(1), cap 0", x.bound(1), 12);
    }

    public static void main(String[] args) {
        wrongArgumentsAreRefused();
        fullTableRefuses();
        everyRateIsTaken();
        selfLoopsAndParallelChannels();
        successDiscardsResults();
        Checks.finish();
    }
}
