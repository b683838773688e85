/** The edges of promise 5, each sentence on its own. */
public final class Promise05EdgesTest {
    private static String call(int ch, int n) {
        return "setTokens(" + ch + ", " + n + ")";
    }

    /** Refusal 1: "ch is not an existing channel". */
    private static void lastChannelAndTheNext() {
        for (int channels = 0; channels <= 24; channels++) {
            SdfScheduler x = Graphs.selfLoops(channels, 0);
            for (int ch = -2; ch <= 26; ch++) {
                Checks.due(call(ch, 1) + " of " + channels, x.setTokens(ch, 1), ch >= 0 && ch < channels);
            }
            for (int ch : States.FAR_OFF) {
                Checks.due(call(ch, 1) + " of " + channels, x.setTokens(ch, 1), false);
            }
        }
    }

    /** Refusals 2 and 3: "n is not in 0..32", "cap(ch) != 0 and n > cap(ch)". */
    private static void firstAndLastNumber() {
        int[] capacities = {0, 1, 2, 8, 31, 32, 33, 63, 64};
        for (int cap : capacities) {
            int most = cap == 0 || cap > 32 ? 32 : cap;
            for (int n = -2; n <= 70; n++) {
                SdfScheduler x = Graphs.graph(1, Graphs.ch(0, 0, 1, 1, 0, cap));
                Checks.due(call(0, n) + " with capacity " + cap, x.setTokens(0, n), n >= 0 && n <= most);
            }
            for (int n : States.FAR_OFF) {
                SdfScheduler x = Graphs.graph(1, Graphs.ch(0, 0, 1, 1, 0, cap));
                Checks.due(call(0, n) + " with capacity " + cap, x.setTokens(0, n), false);
            }
        }
    }

    /** The refusals alone, in pairs, and "A refused call changes nothing", whatever the verdict. */
    private static void refusedWithEveryVerdict() {
        int[] wrongChannels = {-1, 24, Integer.MIN_VALUE, Integer.MAX_VALUE};
        int[] wrongNumbers = {-1, 33, Integer.MIN_VALUE, Integer.MAX_VALUE};
        for (int verdict : States.ALL) {
            for (int ch : wrongChannels) {
                refused(verdict, ch, 5);
                refused(verdict, ch, 21);
                for (int n : wrongNumbers) {
                    refused(verdict, ch, n);
                }
            }
        }
        for (int verdict : States.FILLED) {
            refused(verdict, States.channels(verdict).length, 5);
            refused(verdict, 0, 21);
            refused(verdict, 0, 32);
            for (int n : wrongNumbers) {
                refused(verdict, 0, n);
                refused(verdict, 1, n);
            }
        }
    }

    private static void refused(int verdict, int ch, int n) {
        States.unchanged(call(ch, n), verdict, x -> Checks.due(call(ch, n), x.setTokens(ch, n), false));
    }

    /** "On success the call answers true, even when n equals the old init(ch)", whatever the verdict. */
    private static void takenWithEveryVerdict() {
        int[] numbers = {0, 1, 4, 5, 6, 19, 20};
        for (int verdict : States.FILLED) {
            for (int n : numbers) {
                int[][] channels = States.channels(verdict);
                SdfScheduler x = States.of(verdict);
                Checks.due(call(0, n), x.setTokens(0, n), true);
                States.discarded("after " + call(0, n) + " with verdict " + verdict, x);
                channels[0][4] = n;
                SdfScheduler built = new SdfScheduler(States.actors(verdict) + 2, channels.length + 2);
                Graphs.fill(built, States.actors(verdict), channels);
                States.alike("after " + call(0, n) + " with verdict " + verdict, x, built);
            }
        }
    }

    /** "sets init(ch) = n": every one of them, as the executor then starts with it. */
    private static void everyNumberIsSet() {
        for (int n = 0; n <= 32; n++) {
            SdfScheduler x = Graphs.graph(2, Graphs.ch(0, 1, 1, 1, 7), Graphs.ch(0, 1, 1, 1, 32 - n));
            Checks.due(call(0, n), x.setTokens(0, n), true);
            Checks.due("analyze()", x.analyze(), SdfScheduler.V_OK);
            Checks.due("tokenCount(0)", x.tokenCount(0), n);
            Checks.due("tokenCount(1), of another channel", x.tokenCount(1), 32 - n);
            Checks.due("bound(0)", x.bound(0), n + 1);
        }
    }

    public static void main(String[] args) {
        lastChannelAndTheNext();
        firstAndLastNumber();
        refusedWithEveryVerdict();
        takenWithEveryVerdict();
        everyNumberIsSet();
        Checks.finish();
    }
}
