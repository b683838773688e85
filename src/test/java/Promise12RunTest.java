public final class Promise12RunTest {
    private static SdfScheduler running() {
        SdfScheduler x = Graphs.graph(2, Graphs.ch(0, 1, 2, 3, 1), Graphs.ch(1, 0, 3, 2, 6, 7));
        Checks.due("analyze()", x.analyze(), SdfScheduler.V_OK);
        return x;
    }

    private static void countsPeriods() {
        SdfScheduler x = running();
        Checks.due("run(4)", x.run(4), 0);
        Checks.due("run(1)", x.run(1), 1);
        Checks.due("run(4)", x.run(4), 1);
        Checks.due("run(2)", x.run(2), 2);
        Checks.due("run(256)", x.run(256), 53);
        Checks.due("position()", x.position(), 2);
        x.analyze();
        Checks.due("run(256) after analyze()", x.run(256), 51);
    }

    private static void wrongArgumentsAreRefused() {
        int[] wrong = {0, -1, 257, Integer.MIN_VALUE, Integer.MAX_VALUE};
        for (int steps : wrong) {
            SdfScheduler x = running();
            x.run(3);
            String before = Checks.shown(x);
            Checks.due("run(" + steps + ")", x.run(steps), -1);
            Checks.due("after run(" + steps + ")", Checks.shown(x), before);
            Checks.due("run(2) after run(" + steps + ")", x.run(2), 1);
        }
    }

    private static void otherVerdictsAreRefused() {
        for (SdfScheduler x : Graphs.withoutExecutor()) {
            Checks.due("run(1) before analyze()", x.run(1), -1);
            x.analyze();
            String before = Checks.shown(x);
            Checks.due("run(1) with verdict " + x.verdict(), x.run(1), -1);
            Checks.due("after run(1) with verdict " + x.verdict(), Checks.shown(x), before);
        }
        SdfScheduler x = running();
        x.setTokens(0, 1);
        Checks.due("run(1) after an edit", x.run(1), -1);
    }

    /** Values told step by step, after the document's Terms. */
    private static void oneStepAfterAnother() {
        SdfScheduler x = Graphs.graph(2, Graphs.ch(0, 1, 2, 3), Graphs.ch(1, 0, 3, 2, 4));
        Checks.due("analyze()", x.analyze(), SdfScheduler.V_OK);
        Checks.due("schedule", Checks.schedule(x), "0 0 1 0 1");
        x.run(1);
        Checks.due("channel 0", Checks.tokens(x, 0), "1 1");
        Checks.due("channel 1", Checks.tokens(x, 1), "0 0");
        x.run(1);
        Checks.due("channel 0", Checks.tokens(x, 0), "1 1 2 2");
        Checks.due("channel 1", Checks.tokens(x, 1), "");
        x.run(1);
        Checks.due("channel 0", Checks.tokens(x, 0), "2");
        Checks.due("channel 1", Checks.tokens(x, 1), "125 125 125");
        x.run(1);
        Checks.due("channel 0", Checks.tokens(x, 0), "2 7753 7753");
        Checks.due("channel 1", Checks.tokens(x, 1), "125");
        Checks.due("run(1)", x.run(1), 1);
        Checks.due("channel 0", Checks.tokens(x, 0), "");
        Checks.due("channel 1", Checks.tokens(x, 1), "125 480750 480750 480750");
    }

    private static void staysWithinBounds() {
        SdfScheduler x = Graphs.graph(3,
            Graphs.ch(0, 1, 2, 3, 1, 7), Graphs.ch(1, 0, 3, 2, 6), Graphs.ch(1, 2, 5, 2, 3), Graphs.ch(2, 2, 1, 1, 4));
        Checks.due("analyze()", x.analyze(), SdfScheduler.V_OK);
        int[] init = {1, 6, 3, 4};
        String schedule = Checks.schedule(x);
        for (int i = 0; i < 3000; i++) {
            x.run(1);
            for (int c = 0; c < 4; c++) {
                int count = x.tokenCount(c);
                Checks.due("tokenCount within bound", count >= 0 && count <= x.bound(c), true);
                Checks.due("tokenCount at position 0", x.position() != 0 || count == init[c], true);
            }
            Checks.due("tokenCount within capacity", x.tokenCount(0) <= 7, true);
        }
        Checks.due("schedule", Checks.schedule(x), schedule);
        Checks.due("verdict()", x.verdict(), SdfScheduler.V_OK);
    }

    public static void main(String[] args) {
        countsPeriods();
        wrongArgumentsAreRefused();
        otherVerdictsAreRefused();
        oneStepAfterAnother();
        staysWithinBounds();
        Checks.finish();
    }
}
