/** What README.md tells: its example, its ranges, and what is shown where there is nothing to run. */
public final class ReadmeTest {
    private static void example() {
        SdfScheduler x = new SdfScheduler(4, 6);
        int a = x.addActor();
        int b = x.addActor();
        int ch = x.addChannel(a, b, 2, 3);
        Checks.due("setTokens", x.setTokens(ch, 1), true);
        Checks.due("setCapacity", x.setCapacity(ch, 6), true);
        Checks.due("analyze", x.analyze(), SdfScheduler.V_OK);
        Checks.due("repetitions", x.repetitions(a), 3);
        Checks.due("scheduleLength", x.scheduleLength(), 5);
        Checks.due("schedule", Checks.schedule(x), "0 0 1 0 1");
        Checks.due("scheduleAt", x.scheduleAt(2), 1);
        Checks.due("bound", x.bound(ch), 5);
        Checks.due("run", x.run(7), 1);
        Checks.due("position", x.position(), 2);
        Checks.due("tokenCount", x.tokenCount(ch), 5);
        Checks.due("tokenValue", x.tokenValue(ch, 0), 3);
        Checks.due("fired", x.fired(b), 2);
        Checks.due("verdict", x.verdict(), SdfScheduler.V_OK);
        x.clear();
        Checks.due("verdict after clear", x.verdict(), SdfScheduler.V_NONE);
        Checks.due("addActor after clear", x.addActor(), 0);
    }

    private static void ranges() {
        SdfScheduler x = new SdfScheduler(Integer.MIN_VALUE, Integer.MAX_VALUE);
        x.addActor();
        Checks.due("the second actor", x.addActor(), 1);
        Checks.due("a third actor", x.addActor(), -1);
        Checks.due("rates of 1 and 8", x.addChannel(0, 1, 1, 8), 0);
        Checks.due("a rate of 9", x.addChannel(0, 1, 9, 1), -1);
        Checks.due("32 tokens", x.setTokens(0, 32), true);
        Checks.due("33 tokens", x.setTokens(0, 33), false);
        Checks.due("a capacity of 65", x.setCapacity(0, 65), false);
        Checks.due("a capacity of 64", x.setCapacity(0, 64), true);
        Checks.due("a capacity below the tokens", x.setCapacity(0, 31), false);
        Checks.due("analyze", x.analyze(), SdfScheduler.V_OK);
        Checks.due("run(257)", x.run(257), -1);
        Checks.due("run(256)", x.run(256) >= 0, true);
        Checks.due("the last channel", lastChannel(x), 23);
    }

    private static int lastChannel(SdfScheduler x) {
        int last = -1;
        for (int c = x.addChannel(0, 1, 1, 1); c >= 0; c = x.addChannel(0, 1, 1, 1)) {
            last = c;
        }
        return last;
    }

    private static void nothingToShow() {
        SdfScheduler x = new SdfScheduler(4, 6);
        Checks.due("repetitions", x.repetitions(0), 0);
        Checks.due("scheduleLength", x.scheduleLength(), 0);
        Checks.due("tokenValue", x.tokenValue(0, 0), 0);
        Checks.due("scheduleAt", x.scheduleAt(0), -1);
        Checks.due("bound", x.bound(0), -1);
        Checks.due("position", x.position(), -1);
        Checks.due("tokenCount", x.tokenCount(0), -1);
        Checks.due("fired", x.fired(0), -1);
    }

    private static void shownWithoutAnExecutor(SdfScheduler x, int verdict, boolean reps, boolean schedule) {
        Checks.due("analyze", x.analyze(), verdict);
        Checks.due("repetitions with verdict " + verdict, x.repetitions(0) != 0, reps);
        Checks.due("schedule with verdict " + verdict, x.scheduleLength() != 0, schedule);
        Checks.due("bound with verdict " + verdict, x.bound(0) != -1, schedule);
        Checks.due("position with verdict " + verdict, x.position(), -1);
    }

    private static SdfScheduler twoActors() {
        SdfScheduler x = new SdfScheduler(10, 24);
        x.addActor();
        x.addActor();
        return x;
    }

    private static void otherVerdicts() {
        shownWithoutAnExecutor(new SdfScheduler(4, 6), SdfScheduler.V_EMPTY, false, false);
        SdfScheduler inconsistent = twoActors();
        inconsistent.addChannel(0, 0, 1, 2);
        shownWithoutAnExecutor(inconsistent, SdfScheduler.V_INCONSISTENT, false, false);
        SdfScheduler tooLong = twoActors();
        for (int a = 1; a < 4; a++) {
            tooLong.addActor();
            tooLong.addChannel(a - 1, a, 8, 1);
        }
        shownWithoutAnExecutor(tooLong, SdfScheduler.V_TOO_LONG, true, false);
        SdfScheduler deadlock = twoActors();
        deadlock.addChannel(1, 1, 1, 1);
        shownWithoutAnExecutor(deadlock, SdfScheduler.V_DEADLOCK, true, true);
        SdfScheduler tooBig = twoActors();
        for (int c = 0; c < 17; c++) {
            tooBig.setTokens(tooBig.addChannel(0, 1, 1, 1), 32);
        }
        shownWithoutAnExecutor(tooBig, SdfScheduler.V_TOO_BIG, true, true);
    }

    public static void main(String[] args) {
        example();
        ranges();
        nothingToShow();
        otherVerdicts();
        Checks.finish();
    }
}
