import java.util.Arrays;
import java.util.function.IntToLongFunction;

/** Objects in the state of each verdict, and what a call may and may not do to them. */
final class States {
    static final int[] ALL = {
        SdfScheduler.V_NONE, SdfScheduler.V_OK, SdfScheduler.V_EMPTY, SdfScheduler.V_INCONSISTENT,
        SdfScheduler.V_TOO_LONG, SdfScheduler.V_DEADLOCK, SdfScheduler.V_TOO_BIG};

    /** Those of a graph with actors and channels. */
    static final int[] FILLED = {
        SdfScheduler.V_NONE, SdfScheduler.V_OK, SdfScheduler.V_INCONSISTENT,
        SdfScheduler.V_TOO_LONG, SdfScheduler.V_DEADLOCK, SdfScheduler.V_TOO_BIG};

    /** In no range that the document names. */
    static final int[] FAR_OFF = {
        Integer.MIN_VALUE, Integer.MIN_VALUE + 1, -257, -65, -2, -1,
        257, 1000, Integer.MAX_VALUE - 1, Integer.MAX_VALUE};

    interface Call {
        void on(SdfScheduler x);
    }

    interface Look {
        String at(SdfScheduler x);
    }

    /** Each with one getter alone, or with none; the last ones look at the graph. */
    private static final Look[] LOOKS = {
        x -> "verdict() " + x.verdict(),
        x -> "repetitions()" + row(10, x::repetitions),
        x -> "scheduleLength() " + x.scheduleLength(),
        x -> "scheduleAt()" + row(20, x::scheduleAt),
        x -> "bound()" + row(24, x::bound),
        x -> "position() " + x.position(),
        x -> "tokenCount()" + row(24, x::tokenCount),
        x -> "tokenValue()" + row(20, pos -> x.tokenValue(0, pos)),
        x -> "fired()" + row(10, x::fired),
        x -> "run() " + x.run(2) + " " + x.run(1) + " " + x.run(256),
        x -> "analyze() " + x.analyze() + row(24, x::bound),
        x -> "analyze() " + x.analyze() + " and run() " + x.run(9) + row(24, x::tokenCount),
        x -> "edits " + probed(x)};

    private States() {
    }

    static int actors(int verdict) {
        if (verdict == SdfScheduler.V_EMPTY) {
            return 0;
        }
        return verdict == SdfScheduler.V_TOO_LONG ? 4 : 2;
    }

    /** Channel 0 has 5 tokens and a capacity of 20 in each of them that has channels. */
    static int[][] channels(int verdict) {
        int[] first = {0, 1, 3, 2, 5, 20};
        switch (verdict) {
            case SdfScheduler.V_EMPTY:
                return new int[0][];
            case SdfScheduler.V_INCONSISTENT:
                return new int[][] {first, {0, 1, 1, 1, 2}};
            case SdfScheduler.V_TOO_LONG:
                return new int[][] {{0, 1, 8, 1, 5, 20}, {1, 2, 8, 1, 2}, {2, 3, 8, 1}};
            case SdfScheduler.V_DEADLOCK:
                return new int[][] {first, {1, 1, 1, 1}};
            case SdfScheduler.V_TOO_BIG:
                int[][] many = new int[18][];
                Arrays.fill(many, Graphs.ch(0, 1, 3, 2, 32));
                many[0] = first;
                return many;
            default:
                return new int[][] {first, {1, 0, 2, 3, 6}};
        }
    }

    /** With V_OK the executor has done one period of five steps and two steps more. */
    static SdfScheduler of(int verdict, int freeActors, int freeChannels) {
        int[][] channels = channels(verdict);
        SdfScheduler x = new SdfScheduler(actors(verdict) + freeActors, channels.length + freeChannels);
        Graphs.fill(x, actors(verdict), channels);
        int analyzed = verdict == SdfScheduler.V_NONE ? SdfScheduler.V_OK : verdict;
        Checks.due("analyze()", x.analyze(), analyzed);
        Checks.due("run(7)", x.run(7), analyzed == SdfScheduler.V_OK ? 1 : -1);
        if (verdict == SdfScheduler.V_NONE) {
            Checks.due("setTokens(0, 5)", x.setTokens(0, 5), true);
        }
        return x;
    }

    static SdfScheduler of(int verdict) {
        return of(verdict, 2, 2);
    }

    /** A twin without the call must show the same then and ever after. */
    static void unchanged(String call, int verdict, int freeActors, int freeChannels, Call made) {
        SdfScheduler x = of(verdict, freeActors, freeChannels);
        SdfScheduler twin = of(verdict, freeActors, freeChannels);
        made.on(x);
        String after = "after " + call + " with verdict " + verdict;
        Checks.due(after, Checks.shown(x), Checks.shown(twin));
        // The periods counted so far show in no getter, only in what run answers next.
        Checks.due("run(3) " + after, x.run(3), twin.run(3));
        Checks.due("run(3) " + after, Checks.shown(x), Checks.shown(twin));
        alike(after, x, twin);
    }

    static void unchanged(String call, int verdict, Call made) {
        unchanged(call, verdict, 2, 2, made);
    }

    /** Each look is at a pair of its own: a getter that does harm, used for looking, would harm both alike. */
    static void asked(String getter, int verdict, Call ask) {
        for (Look look : LOOKS) {
            SdfScheduler x = of(verdict);
            ask.on(x);
            SdfScheduler twin = of(verdict);
            Checks.due("after " + getter + " with verdict " + verdict, look.at(x), look.at(twin));
        }
    }

    /** Two objects of the same tables and graphs: analyzed, run and edited alike from now on. */
    static void alike(String after, SdfScheduler x, SdfScheduler twin) {
        Checks.due("analyze() " + after, x.analyze(), twin.analyze());
        Checks.due("analyzed " + after, Checks.shown(x), Checks.shown(twin));
        Checks.due("run(9) " + after, x.run(9), twin.run(9));
        Checks.due("run on " + after, Checks.shown(x), Checks.shown(twin));
        Checks.due("graph " + after, probed(x), probed(twin));
    }

    private static String row(int most, IntToLongFunction getter) {
        StringBuilder s = new StringBuilder();
        for (int n = -1; n <= most; n++) {
            s.append(' ').append(getter.applyAsLong(n));
        }
        return s.toString();
    }

    /** V_NONE, and every getter's "otherwise" answer. */
    static void discarded(String after, SdfScheduler x) {
        Checks.due("verdict() " + after, x.verdict(), SdfScheduler.V_NONE);
        Checks.due("shown " + after, Checks.shown(x), Checks.shown(new SdfScheduler(2, 1)));
        Checks.due("run(1) " + after, x.run(1), -1);
    }

    /** The graph as refusals tell it: the greatest n of each channel, and what is free. It edits x. */
    static String probed(SdfScheduler x) {
        StringBuilder s = new StringBuilder();
        for (int c = -1; c <= 24; c++) {
            int n = 33;
            while (n >= 0 && !x.setTokens(c, n)) {
                n--;
            }
            s.append(n).append(' ');
        }
        s.append("actors from ");
        for (int i = 0; i < 11; i++) {
            s.append(x.addActor()).append(' ');
        }
        s.append("channels from ");
        for (int i = 0; i < 25; i++) {
            s.append(x.addChannel(0, 0, 1, 1)).append(' ');
        }
        return s.toString();
    }
}
