public final class Promise07AnalyzeTest {
    private static void analyzed(String what, SdfScheduler x, int verdict) {
        Checks.due("analyze() of " + what, x.analyze(), verdict);
        Checks.due("verdict() of " + what, x.verdict(), verdict);
        String first = Checks.shown(x);
        x.run(5);
        Checks.due("analyze() again of " + what, x.analyze(), verdict);
        Checks.due(what + " analyzed again", Checks.shown(x), first);
    }

    private static void consistency() {
        analyzed("no actor", Graphs.graph(0), SdfScheduler.V_EMPTY);
        analyzed("one actor", Graphs.graph(1), SdfScheduler.V_OK);
        analyzed("ten lone actors", Graphs.graph(10), SdfScheduler.V_OK);
        analyzed("parallel channels that differ",
            Graphs.graph(2, Graphs.ch(0, 1, 1, 1), Graphs.ch(0, 1, 1, 2)), SdfScheduler.V_INCONSISTENT);
        analyzed("parallel channels that agree",
            Graphs.graph(2, Graphs.ch(0, 1, 3, 2), Graphs.ch(0, 1, 6, 4)), SdfScheduler.V_OK);
        analyzed("a self-loop that gains",
            Graphs.graph(1, Graphs.ch(0, 0, 2, 1, 5)), SdfScheduler.V_INCONSISTENT);
        analyzed("a self-loop that loses",
            Graphs.graph(1, Graphs.ch(0, 0, 1, 2, 5)), SdfScheduler.V_INCONSISTENT);
        analyzed("an inconsistent triangle",
            Graphs.graph(3, Graphs.ch(0, 1, 1, 2), Graphs.ch(1, 2, 1, 2), Graphs.ch(0, 2, 1, 3)),
            SdfScheduler.V_INCONSISTENT);
        analyzed("a consistent triangle",
            Graphs.graph(3, Graphs.ch(0, 1, 1, 2), Graphs.ch(1, 2, 1, 2), Graphs.ch(0, 2, 1, 4)),
            SdfScheduler.V_OK);
        analyzed("a second part that is inconsistent",
            Graphs.graph(4, Graphs.ch(0, 1, 1, 1), Graphs.ch(2, 3, 1, 1), Graphs.ch(3, 2, 2, 1, 9)),
            SdfScheduler.V_INCONSISTENT);
    }

    private static void lengthLimit() {
        SdfScheduler x = Graphs.graph(6, Graphs.PERIOD_OF_256);
        Checks.due("analyze() with Q 256, bounds aside", x.analyze() != SdfScheduler.V_TOO_LONG, true);
        Checks.due("scheduleLength()", x.scheduleLength(), 256);
        x.addActor();
        analyzed("Q 257", x, SdfScheduler.V_TOO_LONG);
        Checks.due("scheduleLength()", x.scheduleLength(), 0);
        SdfScheduler two = Graphs.graph(4, Graphs.ch(0, 1, 8, 1), Graphs.ch(1, 2, 8, 1), Graphs.ch(2, 3, 8, 1));
        analyzed("Q 585", two, SdfScheduler.V_TOO_LONG);
    }

    private static void storeLimit() {
        analyzed("bounds of 512", Graphs.selfLoops(16, 32), SdfScheduler.V_OK);
        SdfScheduler x = Graphs.selfLoops(17, 32);
        x.setTokens(16, 1);
        analyzed("bounds of 513", x, SdfScheduler.V_TOO_BIG);
        analyzed("bounds of 768", Graphs.selfLoops(24, 32), SdfScheduler.V_TOO_BIG);
    }

    /** A chain whose last channel alone fills up to 8 * 64 tokens before its reader may fire. */
    private static void storeLimitOnOneChannel() {
        SdfScheduler x = Graphs.graph(4,
            Graphs.ch(0, 1, 8, 1, 0, 8), Graphs.ch(1, 2, 8, 1, 0, 64), Graphs.ch(2, 3, 8, 8));
        Checks.due("analyze()", x.analyze(), SdfScheduler.V_TOO_BIG);
        Checks.due("bound(2)", x.bound(2), 512);
        Checks.due("bound(1)", x.bound(1), 64);
    }

    private static void deadlocks() {
        analyzed("a cycle without tokens",
            Graphs.graph(2, Graphs.ch(0, 1, 1, 1), Graphs.ch(1, 0, 1, 1)), SdfScheduler.V_DEADLOCK);
        analyzed("a cycle with a token",
            Graphs.graph(2, Graphs.ch(0, 1, 1, 1), Graphs.ch(1, 0, 1, 1, 1)), SdfScheduler.V_OK);
        analyzed("a cycle one token short",
            Graphs.graph(2, Graphs.ch(0, 1, 2, 3), Graphs.ch(1, 0, 3, 2, 3)), SdfScheduler.V_DEADLOCK);
        analyzed("a cycle with just enough",
            Graphs.graph(2, Graphs.ch(0, 1, 2, 3), Graphs.ch(1, 0, 3, 2, 4)), SdfScheduler.V_OK);
        analyzed("a self-loop without tokens", Graphs.graph(1, Graphs.ch(0, 0, 1, 1)), SdfScheduler.V_DEADLOCK);
        analyzed("a self-loop at its capacity",
            Graphs.graph(1, Graphs.ch(0, 0, 1, 1, 1, 1)), SdfScheduler.V_DEADLOCK);
        analyzed("a self-loop with room",
            Graphs.graph(1, Graphs.ch(0, 0, 1, 1, 1, 2)), SdfScheduler.V_OK);
        analyzed("a capacity too small",
            Graphs.graph(2, Graphs.ch(0, 1, 2, 3, 0, 3)), SdfScheduler.V_DEADLOCK);
        analyzed("a capacity large enough",
            Graphs.graph(2, Graphs.ch(0, 1, 2, 3, 0, 4)), SdfScheduler.V_OK);
        analyzed("a second part that stops",
            Graphs.graph(3, Graphs.ch(0, 1, 1, 1), Graphs.ch(2, 2, 1, 1)), SdfScheduler.V_DEADLOCK);
    }

    /** Where two verdicts would fit, the earlier test answers. */
    private static void orderOfTests() {
        SdfScheduler x = Graphs.tooLong();
        x.addChannel(6, 6, 1, 1);
        analyzed("too long and stopping", x, SdfScheduler.V_TOO_LONG);
        x.addChannel(6, 6, 1, 2);
        analyzed("inconsistent and too long", x, SdfScheduler.V_INCONSISTENT);
        SdfScheduler y = Graphs.selfLoops(20, 32);
        y.addChannel(0, 0, 1, 1);
        analyzed("stopping and too big", y, SdfScheduler.V_DEADLOCK);
        y.addChannel(0, 0, 1, 2);
        analyzed("inconsistent and stopping", y, SdfScheduler.V_INCONSISTENT);
    }

    private static void available(String what, SdfScheduler x, boolean reps, boolean schedule, boolean executor) {
        x.analyze();
        Checks.due("repetitions with " + what, x.repetitions(0) > 0, reps);
        Checks.due("schedule with " + what, x.scheduleLength() > 0, schedule);
        Checks.due("entry with " + what, x.scheduleAt(0) >= 0, schedule);
        Checks.due("bound with " + what, x.bound(0) >= 0, schedule);
        Checks.due("position with " + what, x.position() >= 0, executor);
        Checks.due("tokenCount with " + what, x.tokenCount(0) >= 0, executor);
        Checks.due("fired with " + what, x.fired(0) >= 0, executor);
        Checks.due("run with " + what, x.run(1) >= 0, executor);
    }

    /** On one object, so that what an earlier verdict left behind would show. */
    private static void whatEachVerdictShows() {
        SdfScheduler x = Graphs.graph(2, Graphs.ch(0, 1, 1, 1, 1));
        available("V_OK", x, true, true, true);
        x.addChannel(1, 0, 1, 1);
        x.addActor();
        x.addChannel(2, 2, 1, 1);
        x.setTokens(1, 1);
        available("V_DEADLOCK", x, true, true, false);
        x.setTokens(2, 1);
        available("V_OK", x, true, true, true);
        for (int c = 3; c < 20; c++) {
            x.addChannel(0, 1, 1, 1);
            x.setTokens(c, 32);
        }
        available("V_TOO_BIG", x, true, true, false);
        x.addActor();
        x.addActor();
        x.addActor();
        x.addChannel(0, 3, 8, 1);
        x.addChannel(3, 4, 8, 1);
        x.addChannel(4, 5, 8, 1);
        available("V_TOO_LONG", x, true, false, false);
        x.addChannel(0, 0, 1, 2);
        available("V_INCONSISTENT", x, false, false, false);
        x.clear();
        available("V_EMPTY", x, false, false, false);
    }

    private static void executorIsReset() {
        SdfScheduler x = Graphs.graph(2, Graphs.ch(0, 1, 2, 3, 4), Graphs.ch(1, 1, 1, 1, 1));
        x.analyze();
        String fresh = Checks.shown(x);
        Checks.due("run(13)", x.run(13), 2);
        Checks.due("running shows", Checks.shown(x).equals(fresh), false);
        x.analyze();
        Checks.due("analyzed anew", Checks.shown(x), fresh);
        Checks.due("run(5) counts its periods anew", x.run(5), 1);
    }

    public static void main(String[] args) {
        consistency();
        lengthLimit();
        storeLimit();
        storeLimitOnOneChannel();
        deadlocks();
        orderOfTests();
        whatEachVerdictShows();
        executorIsReset();
        Checks.finish();
    }
}
