/** The edges of promise 11, each sentence on its own. */
public final class Promise11EdgesTest {
    private static int due(int verdict, int ch) {
        switch (verdict) {
            case SdfScheduler.V_OK:
                return ch == 0 ? 11 : 6;
            case SdfScheduler.V_DEADLOCK:
                return ch == 0 ? 11 : 0;
            case SdfScheduler.V_TOO_BIG:
                return ch == 0 ? 11 : 38;
            default:
                return -1;
        }
    }

    /** "when the verdict is V_OK, V_DEADLOCK or V_TOO_BIG and ch is an existing channel. Otherwise ... -1." */
    private static void everyVerdictAndArgument() {
        for (int verdict : States.ALL) {
            SdfScheduler x = States.of(verdict);
            int channels = States.channels(verdict).length;
            for (int ch = -2; ch <= 30; ch++) {
                int due = ch >= 0 && ch < channels ? due(verdict, ch) : -1;
                Checks.due("bound(" + ch + ") with verdict " + verdict, x.bound(ch), due);
            }
            for (int ch : States.FAR_OFF) {
                Checks.due("bound(" + ch + ") with verdict " + verdict, x.bound(ch), -1);
            }
        }
    }

    /** The last channel and the next, up to a full table. */
    private static void lastChannelAndTheNext() {
        for (int channels = 0; channels <= 24; channels++) {
            SdfScheduler x = Graphs.selfLoops(channels, 3);
            Checks.due("analyze()", x.analyze(), SdfScheduler.V_OK);
            Checks.due("bound of the last", x.bound(channels - 1), channels == 0 ? -1 : 3);
            Checks.due("bound of the next", x.bound(channels), -1);
        }
    }

    /** "The answer is never below init(ch)": also when nothing fires, or only readers do. */
    private static void neverBelowInit() {
        for (int n = 0; n <= 32; n++) {
            SdfScheduler stopped = Graphs.graph(2, Graphs.ch(0, 0, 1, 1), Graphs.ch(0, 1, 1, 1, n),
                Graphs.ch(1, 1, 1, 1));
            Checks.due("analyze()", stopped.analyze(), SdfScheduler.V_DEADLOCK);
            Checks.due("bound(1) of a graph that never fires", stopped.bound(1), n);
            SdfScheduler read = Graphs.graph(2, Graphs.ch(0, 0, 1, 1), Graphs.ch(0, 1, 1, 1, n));
            Checks.due("analyze()", read.analyze(), SdfScheduler.V_DEADLOCK);
            Checks.due("bound(1) of a channel that is only read", read.bound(1), n);
        }
    }

    /** "With V_DEADLOCK the bound is taken over the states visited before the stop." */
    private static void statesBeforeTheStop() {
        SdfScheduler x = Graphs.graph(3, Graphs.ch(0, 1, 1, 4), Graphs.ch(2, 0, 4, 1, 3), Graphs.ch(2, 2, 1, 1));
        Checks.due("analyze()", x.analyze(), SdfScheduler.V_DEADLOCK);
        Checks.due("schedule", Checks.schedule(x), "0 0 0");
        Checks.due("bound(0)", x.bound(0), 3);
        Checks.due("bound(1)", x.bound(1), 3);
        Checks.due("bound(2)", x.bound(2), 0);
        x.setTokens(2, 1);
        Checks.due("analyze()", x.analyze(), SdfScheduler.V_OK);
        Checks.due("bound(0)", x.bound(0), 4);
        Checks.due("bound(1)", x.bound(1), 4);
    }

    /** "When cap(ch) != 0, the bound does not exceed cap(ch)", but it may reach it. */
    private static void neverAboveCapacity() {
        for (int cap = 8; cap <= 64; cap++) {
            SdfScheduler x = Graphs.graph(3, Graphs.ch(0, 1, 8, 1), Graphs.ch(1, 2, 8, 1, 0, cap));
            Checks.due("analyze()", x.analyze(), SdfScheduler.V_OK);
            Checks.due("bound(1) with capacity " + cap, x.bound(1) <= cap, true);
            // The writer waits until all but cap - 8 tokens are read, so the count comes up to cap itself.
            Checks.due("bound(1) with capacity " + cap, x.bound(1), cap);
        }
        SdfScheduler x = Graphs.graph(3, Graphs.ch(0, 1, 8, 1), Graphs.ch(1, 2, 8, 1, 0, 7));
        Checks.due("analyze()", x.analyze(), SdfScheduler.V_DEADLOCK);
        Checks.due("bound(1) with capacity 7", x.bound(1), 0);
    }

    /** What a larger bound was before must not stay. */
    private static void smallerThanBefore() {
        SdfScheduler x = Graphs.graph(2, Graphs.ch(0, 1, 8, 7, 32));
        x.analyze();
        Checks.due("bound(0)", x.bound(0), 88);
        x.setTokens(0, 0);
        x.setCapacity(0, 14);
        x.analyze();
        Checks.due("bound(0)", x.bound(0), 14);
        x.clear();
        Graphs.fill(x, 1, Graphs.ch(0, 0, 1, 1));
        x.analyze();
        Checks.due("bound(0)", x.bound(0), 0);
    }

    /** "The call changes nothing." */
    private static void changesNothing() {
        for (int verdict : States.ALL) {
            States.asked("bound()", verdict, x -> {
                for (int ch : States.FAR_OFF) {
                    x.bound(ch);
                }
                for (int ch = 0; ch <= 24; ch++) {
                    x.bound(ch);
                }
            });
        }
    }

    public static void main(String[] args) {
        everyVerdictAndArgument();
        lastChannelAndTheNext();
        neverBelowInit();
        statesBeforeTheStop();
        neverAboveCapacity();
        smallerThanBefore();
        changesNothing();
        Checks.finish();
    }
}
