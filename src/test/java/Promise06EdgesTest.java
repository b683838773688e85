/** The edges of promise 6, each sentence on its own. */
public final class Promise06EdgesTest {
    private static String call(int ch, int cap) {
        return "setCapacity(" + ch + ", " + cap + ")";
    }

    /** Refusal 1: "ch is not an existing channel". */
    private static void lastChannelAndTheNext() {
        for (int channels = 0; channels <= 24; channels++) {
            SdfScheduler x = Graphs.selfLoops(channels, 0);
            for (int ch = -2; ch <= 26; ch++) {
                Checks.due(call(ch, 1) + " of " + channels, x.setCapacity(ch, 1), ch >= 0 && ch < channels);
            }
            for (int ch : States.FAR_OFF) {
                Checks.due(call(ch, 1) + " of " + channels, x.setCapacity(ch, 1), false);
            }
        }
    }

    /** Refusals 2 and 3: "cap is not in 0..64", "cap != 0 and cap < init(ch)". */
    private static void firstAndLastCapacity() {
        int[] tokens = {0, 1, 2, 8, 31, 32};
        for (int n : tokens) {
            for (int cap = -2; cap <= 70; cap++) {
                SdfScheduler x = Graphs.graph(1, Graphs.ch(0, 0, 1, 1, n));
                boolean taken = cap == 0 || (cap >= 1 && cap >= n && cap <= 64);
                Checks.due(call(0, cap) + " with " + n + " tokens", x.setCapacity(0, cap), taken);
            }
            for (int cap : States.FAR_OFF) {
                SdfScheduler x = Graphs.graph(1, Graphs.ch(0, 0, 1, 1, n));
                Checks.due(call(0, cap) + " with " + n + " tokens", x.setCapacity(0, cap), false);
            }
        }
    }

    /** The refusals alone, in pairs, and "A refused call changes nothing", whatever the verdict. */
    private static void refusedWithEveryVerdict() {
        int[] wrongChannels = {-1, 24, Integer.MIN_VALUE, Integer.MAX_VALUE};
        int[] wrongCapacities = {-1, 65, Integer.MIN_VALUE, Integer.MAX_VALUE};
        for (int verdict : States.ALL) {
            for (int ch : wrongChannels) {
                refused(verdict, ch, 0);
                refused(verdict, ch, 4);
                refused(verdict, ch, 64);
                for (int cap : wrongCapacities) {
                    refused(verdict, ch, cap);
                }
            }
        }
        for (int verdict : States.FILLED) {
            refused(verdict, States.channels(verdict).length, 64);
            refused(verdict, 0, 1);
            refused(verdict, 0, 4);
            for (int cap : wrongCapacities) {
                refused(verdict, 0, cap);
                refused(verdict, 1, cap);
            }
        }
    }

    private static void refused(int verdict, int ch, int cap) {
        States.unchanged(call(ch, cap), verdict, x -> Checks.due(call(ch, cap), x.setCapacity(ch, cap), false));
    }

    /** "On success the call answers true, even when cap equals the old value", whatever the verdict. */
    private static void takenWithEveryVerdict() {
        int[] capacities = {0, 5, 6, 8, 19, 20, 21, 63, 64};
        for (int verdict : States.FILLED) {
            for (int cap : capacities) {
                int[][] channels = States.channels(verdict);
                SdfScheduler x = States.of(verdict);
                Checks.due(call(0, cap), x.setCapacity(0, cap), true);
                States.discarded("after " + call(0, cap) + " with verdict " + verdict, x);
                channels[0][5] = cap;
                SdfScheduler built = new SdfScheduler(States.actors(verdict) + 2, channels.length + 2);
                Graphs.fill(built, States.actors(verdict), channels);
                States.alike("after " + call(0, cap) + " with verdict " + verdict, x, built);
            }
        }
    }

    /** "sets cap(ch) = cap": every one of them, as a firing that would go above it then waits. */
    private static void everyCapacityIsSet() {
        for (int cap = 1; cap <= 64; cap++) {
            SdfScheduler x = Graphs.graph(4,
                Graphs.ch(0, 1, 8, 1), Graphs.ch(1, 2, 8, 1), Graphs.ch(2, 3, 1, 1), Graphs.ch(2, 3, 1, 1));
            Checks.due(call(2, cap), x.setCapacity(2, cap), true);
            Checks.due("analyze()", x.analyze(), SdfScheduler.V_OK);
            Checks.due("bound(2) with capacity " + cap, x.bound(2), cap);
            Checks.due("bound(3), of an unbounded channel alike", x.bound(3), cap);
        }
    }

    /** "cap = 0 makes the channel unbounded": also one that holds more than a capacity could be. */
    private static void zeroIsUnbounded() {
        SdfScheduler x = Graphs.graph(3, Graphs.ch(0, 1, 8, 1), Graphs.ch(1, 2, 8, 1, 32, 64));
        Checks.due("analyze()", x.analyze(), SdfScheduler.V_OK);
        Checks.due("bound(1) with capacity 64", x.bound(1), 64);
        Checks.due(call(1, 0), x.setCapacity(1, 0), true);
        Checks.due("analyze()", x.analyze(), SdfScheduler.V_OK);
        Checks.due("bound(1) without capacity", x.bound(1), 96);
        Checks.due("tokenCount(1)", x.tokenCount(1), 32);
        Checks.due(call(1, 31), x.setCapacity(1, 31), false);
        Checks.due(call(1, 32), x.setCapacity(1, 32), true);
    }

    public static void main(String[] args) {
        lastChannelAndTheNext();
        firstAndLastCapacity();
        refusedWithEveryVerdict();
        takenWithEveryVerdict();
        everyCapacityIsSet();
        zeroIsUnbounded();
        Checks.finish();
    }
}
