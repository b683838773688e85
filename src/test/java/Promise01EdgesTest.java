/** The edges of promise 1, each sentence on its own. */
public final class Promise01EdgesTest {
    private static int actorsThatFit(SdfScheduler x) {
        int fit = 0;
        while (fit < 100 && x.addActor() == fit) {
            fit++;
        }
        return fit;
    }

    private static int channelsThatFit(SdfScheduler x) {
        int fit = 0;
        while (fit < 100 && x.addChannel(0, 0, 1, 1) == fit) {
            fit++;
        }
        return fit;
    }

    /** "maxActors is clamped into 2..10: below 2 becomes 2, and above 10 becomes 10." */
    private static void actorsAreClamped() {
        for (int n = -3; n <= 14; n++) {
            int due = n < 2 ? 2 : n > 10 ? 10 : n;
            Checks.due("actors of (" + n + ", 5)", actorsThatFit(new SdfScheduler(n, 5)), due);
        }
        for (int n : States.FAR_OFF) {
            Checks.due("actors of (" + n + ", 5)", actorsThatFit(new SdfScheduler(n, 5)), n < 2 ? 2 : 10);
        }
    }

    /** "maxChannels is clamped into 1..24: below 1 becomes 1, and above 24 becomes 24." */
    private static void channelsAreClamped() {
        for (int n = -3; n <= 28; n++) {
            SdfScheduler x = new SdfScheduler(2, n);
            x.addActor();
            int due = n < 1 ? 1 : n > 24 ? 24 : n;
            Checks.due("channels of (2, " + n + ")", channelsThatFit(x), due);
        }
        for (int n : States.FAR_OFF) {
            SdfScheduler x = new SdfScheduler(2, n);
            x.addActor();
            Checks.due("channels of (2, " + n + ")", channelsThatFit(x), n < 1 ? 1 : 24);
        }
    }

    /** "accepts every int for both arguments": what one is says nothing of the other. */
    private static void argumentsAreApart() {
        int[] values = {Integer.MIN_VALUE, -1, 0, 1, 2, 3, 10, 11, 24, 25, Integer.MAX_VALUE};
        for (int maxActors : values) {
            for (int maxChannels : values) {
                SdfScheduler x = new SdfScheduler(maxActors, maxChannels);
                String made = " of (" + maxActors + ", " + maxChannels + ")";
                Checks.due("actors" + made, actorsThatFit(x), Math.max(2, Math.min(10, maxActors)));
                Checks.due("channels" + made, channelsThatFit(x), Math.max(1, Math.min(24, maxChannels)));
            }
        }
    }

    /** "Nothing ever changes them": not full tables, refusals, analyses, runs or clear(). */
    private static void sizesStay() {
        SdfScheduler x = new SdfScheduler(3, 4);
        for (int round = 0; round < 4; round++) {
            Checks.due("actors in round " + round, actorsThatFit(x), 3);
            Checks.due("channels in round " + round, channelsThatFit(x), 4);
            for (int c = 0; c < 4; c++) {
                x.setTokens(c, round == 1 ? 0 : 3);
            }
            Checks.due("analyze()", x.analyze(), round == 1 ? SdfScheduler.V_DEADLOCK : SdfScheduler.V_OK);
            x.run(200);
            Checks.due("addActor() in round " + round, x.addActor(), -1);
            Checks.due("addChannel() in round " + round, x.addChannel(0, 0, 1, 1), -1);
            x.clear();
        }
    }

    /** "Every getter therefore answers its "otherwise" value": for every argument. */
    private static void gettersOfANewObject() {
        SdfScheduler x = new SdfScheduler(10, 24);
        Checks.due("verdict()", x.verdict(), SdfScheduler.V_NONE);
        Checks.due("scheduleLength()", x.scheduleLength(), 0);
        Checks.due("position()", x.position(), -1);
        for (int n = -2; n <= 600; n++) {
            otherwise(x, n);
        }
        for (int n : States.FAR_OFF) {
            otherwise(x, n);
        }
        Checks.due("verdict()", x.verdict(), SdfScheduler.V_NONE);
    }

    private static void otherwise(SdfScheduler x, int n) {
        Checks.due("repetitions(" + n + ")", x.repetitions(n), 0);
        Checks.due("scheduleAt(" + n + ")", x.scheduleAt(n), -1);
        Checks.due("bound(" + n + ")", x.bound(n), -1);
        Checks.due("run(" + n + ")", x.run(n), -1);
        Checks.due("tokenCount(" + n + ")", x.tokenCount(n), -1);
        Checks.due("tokenValue(" + n + ", 0)", x.tokenValue(n, 0), 0);
        Checks.due("tokenValue(0, " + n + ")", x.tokenValue(0, n), 0);
        Checks.due("tokenValue(" + n + ", " + n + ")", x.tokenValue(n, n), 0);
        Checks.due("fired(" + n + ")", x.fired(n), -1);
    }

    /** "At the start the graph is empty, with no actors and no channels." */
    private static void startsWithoutActorsAndChannels() {
        SdfScheduler x = new SdfScheduler(10, 24);
        Checks.due("addChannel(0, 0, 1, 1)", x.addChannel(0, 0, 1, 1), -1);
        Checks.due("setTokens(0, 0)", x.setTokens(0, 0), false);
        Checks.due("setCapacity(0, 0)", x.setCapacity(0, 0), false);
        Checks.due("analyze()", x.analyze(), SdfScheduler.V_EMPTY);
        Checks.due("addActor()", x.addActor(), 0);
        Checks.due("addChannel(0, 0, 1, 1)", x.addChannel(0, 0, 1, 1), 0);
    }

    /** Two objects share nothing. */
    private static void objectsAreApart() {
        SdfScheduler x = States.of(SdfScheduler.V_OK);
        String before = Checks.shown(x);
        SdfScheduler other = new SdfScheduler(2, 1);
        Graphs.fill(other, 2, Graphs.ch(1, 0, 7, 5, 9, 60));
        other.analyze();
        other.run(100);
        other.clear();
        Checks.due("another object's calls", Checks.shown(x), before);
    }

    public static void main(String[] args) {
        actorsAreClamped();
        channelsAreClamped();
        argumentsAreApart();
        sizesStay();
        gettersOfANewObject();
        startsWithoutActorsAndChannels();
        objectsAreApart();
        Checks.finish();
    }
}
