import java.util.Arrays;

/** The edges of promise 4, each sentence on its own. */
public final class Promise04EdgesTest {
    private static String call(int src, int dst, int prod, int cons) {
        return "addChannel(" + src + ", " + dst + ", " + prod + ", " + cons + ")";
    }

    /** Refusal 1: "the channel table is full". */
    private static void lastPlaceOfEveryTable() {
        for (int size = 1; size <= 24; size++) {
            SdfScheduler x = new SdfScheduler(2, size);
            x.addActor();
            for (int c = 0; c < size; c++) {
                Checks.due("addChannel() of a table of " + size, x.addChannel(0, 0, 1, 1), c);
            }
            Checks.due("addChannel() of a full table of " + size, x.addChannel(0, 0, 1, 1), -1);
            Checks.due("addChannel() of a full table of " + size, x.addChannel(0, 0, 1, 1), -1);
            Checks.due("the last channel exists", x.setTokens(size - 1, 1), true);
            Checks.due("the refused channel does not", x.setTokens(size, 1), false);
        }
    }

    /** Refusals 2 and 3: "src is not an existing actor", "dst is not an existing actor". */
    private static void lastActorAndTheNext() {
        for (int actors = 0; actors <= 10; actors++) {
            SdfScheduler x = Graphs.graph(actors);
            for (int a = -2; a <= 11; a++) {
                boolean exists = a >= 0 && a < actors;
                int last = actors - 1;
                Checks.due("src " + a + " of " + actors, x.addChannel(a, last, 1, 1) >= 0, exists);
                Checks.due("dst " + a + " of " + actors, x.addChannel(last, a, 1, 1) >= 0, exists);
            }
            for (int a : States.FAR_OFF) {
                Checks.due("src " + a + " of " + actors, x.addChannel(a, 0, 1, 1), -1);
                Checks.due("dst " + a + " of " + actors, x.addChannel(0, a, 1, 1), -1);
            }
        }
    }

    /** Refusals 4 and 5: "prod is not in 1..8", "cons is not in 1..8". */
    private static void firstAndLastRate() {
        for (int rate = -2; rate <= 11; rate++) {
            boolean taken = rate >= 1 && rate <= 8;
            Checks.due("prod " + rate, Graphs.graph(2).addChannel(0, 1, rate, 1) == 0, taken);
            Checks.due("prod " + rate, Graphs.graph(2).addChannel(0, 1, rate, 8) == 0, taken);
            Checks.due("cons " + rate, Graphs.graph(2).addChannel(0, 1, 1, rate) == 0, taken);
            Checks.due("cons " + rate, Graphs.graph(2).addChannel(0, 1, 8, rate) == 0, taken);
        }
        for (int rate : States.FAR_OFF) {
            Checks.due("prod " + rate, Graphs.graph(2).addChannel(0, 1, rate, 1), -1);
            Checks.due("cons " + rate, Graphs.graph(2).addChannel(0, 1, 1, rate), -1);
        }
    }

    /**
     * The five refusals, each alone and together with any others: the answer is -1 each time, so their order
     * shows only in that no earlier one lets a later one's value do harm. "A refused call changes nothing."
     */
    private static void everySetOfRefusals() {
        int[] wrongActors = {-1, 4, 10, Integer.MIN_VALUE, Integer.MAX_VALUE};
        int[] wrongRates = {0, 9, -1, Integer.MIN_VALUE, Integer.MAX_VALUE};
        for (int verdict : States.FILLED) {
            for (int causes = 1; causes < 32; causes++) {
                int free = (causes & 1) != 0 ? 0 : 1;
                for (int i = 0; i < 5; i++) {
                    int src = (causes & 2) != 0 ? wrongActors[i] : 0;
                    int dst = (causes & 4) != 0 ? wrongActors[i] : 1;
                    int prod = (causes & 8) != 0 ? wrongRates[i] : 1;
                    int cons = (causes & 16) != 0 ? wrongRates[i] : 8;
                    String call = call(src, dst, prod, cons);
                    States.unchanged(call, verdict, 2, free,
                        x -> Checks.due(call, x.addChannel(src, dst, prod, cons), -1));
                }
            }
        }
        States.unchanged(call(0, 0, 1, 1), SdfScheduler.V_EMPTY,
            x -> Checks.due(call(0, 0, 1, 1), x.addChannel(0, 0, 1, 1), -1));
    }

    private static int[][] withOneMore(int[][] channels, int... one) {
        int[][] all = Arrays.copyOf(channels, channels.length + 1);
        all[channels.length] = one;
        return all;
    }

    /** "src == dst is accepted, and so is a channel parallel to an existing one", whatever the verdict. */
    private static void takenWithEveryVerdict() {
        int[][] taken = {{0, 0, 1, 1}, {1, 1, 8, 8}, {0, 1, 3, 2}, {1, 0, 2, 3}, {0, 1, 1, 8}, {1, 0, 8, 1}};
        for (int verdict : States.FILLED) {
            for (int[] one : taken) {
                int actors = States.actors(verdict);
                int[][] channels = States.channels(verdict);
                SdfScheduler x = States.of(verdict);
                String call = call(one[0], one[1], one[2], one[3]);
                Checks.due(call, x.addChannel(one[0], one[1], one[2], one[3]), channels.length);
                States.discarded("after " + call + " with verdict " + verdict, x);
                SdfScheduler built = new SdfScheduler(actors + 2, channels.length + 2);
                Graphs.fill(built, actors, withOneMore(channels, one));
                States.alike("after " + call + " with verdict " + verdict, x, built);
            }
        }
    }

    /** "with ... init 0 and cap 0": 0 is no capacity, so 32 tokens and more go in. */
    private static void startsEmptyAndUnbounded() {
        SdfScheduler x = Graphs.graph(2, Graphs.ch(0, 1, 8, 1));
        Checks.due("setCapacity(0, 1), which init 0 bears", x.setCapacity(0, 1), true);
        SdfScheduler y = Graphs.graph(2, Graphs.ch(0, 1, 8, 8));
        Checks.due("setTokens(0, 32), which no capacity bars", y.setTokens(0, 32), true);
        Checks.due("analyze()", y.analyze(), SdfScheduler.V_OK);
        Checks.due("bound(0)", y.bound(0), 40);
        SdfScheduler z = Graphs.graph(2, Graphs.ch(0, 1, 8, 8));
        Checks.due("analyze()", z.analyze(), SdfScheduler.V_OK);
        Checks.due("tokenCount(0)", z.tokenCount(0), 0);
    }

    /** The same where a channel of that number had tokens and a capacity before clear(). */
    private static void startsAnewAfterClear() {
        SdfScheduler x = Graphs.graph(2, Graphs.ch(0, 1, 1, 1, 5, 6), Graphs.ch(0, 1, 1, 1, 7, 8));
        x.clear();
        Graphs.fill(x, 2, Graphs.ch(0, 1, 8, 8), Graphs.ch(0, 1, 8, 8));
        Checks.due("analyze()", x.analyze(), SdfScheduler.V_OK);
        Checks.due("tokenCount(0)", x.tokenCount(0), 0);
        Checks.due("tokenCount(1)", x.tokenCount(1), 0);
        Checks.due("setTokens(0, 32)", x.setTokens(0, 32), true);
        Checks.due("setTokens(1, 32)", x.setTokens(1, 32), true);
    }

    /** "Existing actors and channels are unchanged", as calls are taken and refused up to a full table. */
    private static void existingChannelsStay() {
        SdfScheduler x = Graphs.graph(1);
        for (int c = 0; c < 24; c++) {
            Checks.due("addChannel()", x.addChannel(0, 0, 1, 1), c);
            Checks.due("setTokens()", x.setTokens(c, c % 20 + 1), true);
            Checks.due("setCapacity()", x.setCapacity(c, c % 20 + 2), true);
            Checks.due("a refused addChannel()", x.addChannel(0, 0, 1, 9), -1);
        }
        Checks.due("addChannel() of a full table", x.addChannel(0, 0, 1, 1), -1);
        Checks.due("analyze()", x.analyze(), SdfScheduler.V_OK);
        for (int c = 0; c < 24; c++) {
            Checks.due("tokenCount(" + c + ")", x.tokenCount(c), c % 20 + 1);
        }
        for (int c = 0; c < 24; c++) {
            Checks.due("setTokens() above the capacity of " + c, x.setTokens(c, c % 20 + 3), false);
            Checks.due("setTokens() up to the capacity of " + c, x.setTokens(c, c % 20 + 2), true);
        }
    }

    public static void main(String[] args) {
        lastPlaceOfEveryTable();
        lastActorAndTheNext();
        firstAndLastRate();
        everySetOfRefusals();
        takenWithEveryVerdict();
        startsEmptyAndUnbounded();
        startsAnewAfterClear();
        existingChannelsStay();
        Checks.finish();
    }
}
