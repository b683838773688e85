/** The edges of promise 2, each sentence on its own. */
public final class Promise02EdgesTest {
    /** "It is never refused": whatever the verdict, and whether the tables are full or not. */
    private static void withEveryVerdict() {
        for (int verdict : States.ALL) {
            for (int free = 0; free < 3; free++) {
                SdfScheduler x = States.of(verdict, free, free);
                x.clear();
                States.discarded("after clear() with verdict " + verdict, x);
                Checks.due("analyze()", x.analyze(), SdfScheduler.V_EMPTY);
            }
        }
    }

    /** "removes all actors and all channels": none of their numbers is taken any more. */
    private static void nothingExistsAfterwards() {
        for (int verdict : States.ALL) {
            SdfScheduler x = States.of(verdict);
            x.clear();
            for (int n = -1; n <= 24; n++) {
                Checks.due("addChannel(" + n + ", " + n + ", 1, 1)", x.addChannel(n, n, 1, 1), -1);
                Checks.due("setTokens(" + n + ", 0)", x.setTokens(n, 0), false);
                Checks.due("setCapacity(" + n + ", 0)", x.setCapacity(n, 0), false);
            }
            Checks.due("verdict()", x.verdict(), SdfScheduler.V_NONE);
        }
    }

    /** "numbering starts again at 0", and "The table sizes stay". */
    private static void filledAgainLikeANewOne() {
        for (int before : States.ALL) {
            for (int verdict : States.FILLED) {
                SdfScheduler x = new SdfScheduler(7, 20);
                SdfScheduler fresh = new SdfScheduler(7, 20);
                Graphs.fill(x, States.actors(before), States.channels(before));
                x.analyze();
                x.run(7);
                x.clear();
                Graphs.fill(x, States.actors(verdict), States.channels(verdict));
                Graphs.fill(fresh, States.actors(verdict), States.channels(verdict));
                States.alike("after clear() with verdict " + before, x, fresh);
            }
        }
    }

    private static void emptyAndTwice() {
        SdfScheduler x = new SdfScheduler(2, 1);
        x.clear();
        States.discarded("after clear() of a new object", x);
        x.clear();
        States.discarded("after clear() of a cleared object", x);
        Checks.due("addActor()", x.addActor(), 0);
        Checks.due("addActor()", x.addActor(), 1);
        Checks.due("addActor()", x.addActor(), -1);
        Checks.due("addChannel(1, 1, 1, 1)", x.addChannel(1, 1, 1, 1), 0);
        Checks.due("addChannel(1, 1, 1, 1)", x.addChannel(1, 1, 1, 1), -1);
    }

    public static void main(String[] args) {
        withEveryVerdict();
        nothingExistsAfterwards();
        filledAgainLikeANewOne();
        emptyAndTwice();
        Checks.finish();
    }
}
