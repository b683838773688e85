public final class Promise05SetTokensTest {
    private static SdfScheduler twoChannels() {
        return Graphs.graph(3, Graphs.ch(0, 1, 1, 1, 2, 6), Graphs.ch(1, 2, 2, 1));
    }

    private static void refused(int ch, int n) {
        String call = "setTokens(" + ch + ", " + n + ")";
        SdfScheduler x = twoChannels();
        Checks.analyzeAndRun(x);
        Checks.due("verdict()", x.verdict(), SdfScheduler.V_OK);
        Checks.changesNothing(call, x, twoChannels(), () -> Checks.due(call, x.setTokens(ch, n), false));
    }

    private static void wrongArgumentsAreRefused() {
        refused(-1, 0);
        refused(2, 0);
        refused(24, 0);
        refused(Integer.MIN_VALUE, 0);
        refused(Integer.MAX_VALUE, 0);
        refused(1, -1);
        refused(1, 33);
        refused(1, Integer.MIN_VALUE);
        refused(1, Integer.MAX_VALUE);
        refused(0, 7);
        refused(0, 32);
        refused(0, -1);
    }

    private static void taken(int ch, int n) {
        String call = "setTokens(" + ch + ", " + n + ")";
        SdfScheduler x = twoChannels();
        Checks.analyzeAndRun(x);
        Checks.due(call, x.setTokens(ch, n), true);
        Checks.due("after " + call, Checks.shown(x), Checks.shown(new SdfScheduler(2, 2)));
        Checks.due("run(1) after " + call, x.run(1), -1);
        Checks.due(call + " and its fellow", x.setTokens(1 - ch, 1), true);
        x.analyze();
        Checks.due("bound at least after " + call, x.bound(ch) >= n, true);
        boolean full = ch == 0 && n == 6;
        Checks.due("analyze() after " + call, x.verdict(), SdfScheduler.V_OK);
        Checks.due("tokenCount after " + call, x.tokenCount(ch), n);
        Checks.due("first fired after " + call, x.scheduleAt(0), full ? 1 : 0);
    }

    private static void edgesAreTaken() {
        taken(0, 0);
        taken(0, 2);
        taken(0, 5);
        taken(0, 6);
        taken(1, 0);
        taken(1, 1);
        taken(1, 32);
    }

    /** 32 is the limit of n itself, whatever the capacity would bear. */
    private static void limitsAreApart() {
        SdfScheduler x = twoChannels();
        Checks.due("setCapacity(1, 64)", x.setCapacity(1, 64), true);
        Checks.due("setTokens(1, 33)", x.setTokens(1, 33), false);
        Checks.due("setTokens(1, 32)", x.setTokens(1, 32), true);
        Checks.due("setTokens(1, 3)", x.setTokens(1, 3), true);
        Checks.due("setCapacity(1, 3), which the new init bears", x.setCapacity(1, 3), true);
        Checks.due("setTokens(1, 4)", x.setTokens(1, 4), false);
        Checks.due("setCapacity(1, 0)", x.setCapacity(1, 0), true);
        Checks.due("setTokens(1, 4)", x.setTokens(1, 4), true);
    }

    public static void main(String[] args) {
        wrongArgumentsAreRefused();
        edgesAreTaken();
        limitsAreApart();
        Checks.finish();
    }
}
