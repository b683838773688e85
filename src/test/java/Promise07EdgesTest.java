/** The edges of promise 7, each sentence on its own. */
public final class Promise07EdgesTest {
    private static int gcd(int a, int b) {
        return b == 0 ? a : gcd(b, a % b);
    }

    private static void verdict(String what, SdfScheduler x, int due) {
        Checks.due("analyze() of " + what, x.analyze(), due);
        Checks.due("verdict() of " + what, x.verdict(), due);
    }

    /** Test 1: "no actor exists". */
    private static void emptyGraph() {
        SdfScheduler x = new SdfScheduler(2, 1);
        verdict("a new object", x, SdfScheduler.V_EMPTY);
        verdict("a new object again", x, SdfScheduler.V_EMPTY);
        x.addActor();
        verdict("one actor", x, SdfScheduler.V_OK);
        x.clear();
        verdict("a cleared object", x, SdfScheduler.V_EMPTY);
    }

    /** Test 2: a self-loop balances when its rates are the same, and only then. */
    private static void balanceOfSelfLoops() {
        for (int prod = 1; prod <= 8; prod++) {
            for (int cons = 1; cons <= 8; cons++) {
                SdfScheduler x = Graphs.graph(1, Graphs.ch(0, 0, prod, cons, 32));
                int due = prod == cons ? SdfScheduler.V_OK : SdfScheduler.V_INCONSISTENT;
                verdict("a self-loop of " + prod + " and " + cons, x, due);
            }
        }
    }

    /** Test 2: two channels of the same actors balance when their rates are in the same proportion. */
    private static void balanceOfTwoChannels() {
        for (int i = 0; i < 4096; i++) {
            int p = 1 + i % 8;
            int c = 1 + i / 8 % 8;
            int p2 = 1 + i / 64 % 8;
            int c2 = 1 + i / 512;
            boolean forth = p * c2 == c * p2;
            boolean back = p * p2 == c * c2;
            verdict("parallel channels " + p + " " + c + " " + p2 + " " + c2,
                Graphs.graph(2, Graphs.ch(0, 1, p, c), Graphs.ch(0, 1, p2, c2)),
                forth ? SdfScheduler.V_OK : SdfScheduler.V_INCONSISTENT);
            verdict("opposite channels " + p + " " + c + " " + p2 + " " + c2,
                Graphs.graph(2, Graphs.ch(0, 1, p, c), Graphs.ch(1, 0, p2, c2, 32)),
                back ? SdfScheduler.V_OK : SdfScheduler.V_INCONSISTENT);
        }
    }

    /** Test 2 on a full table of actors: the last channel of a ring closes it or breaks it. */
    private static void balanceOfALongRing() {
        for (int prod = 1; prod <= 8; prod++) {
            SdfScheduler x = Graphs.graph(10);
            for (int a = 0; a < 9; a++) {
                x.addChannel(a, a + 1, a % 2 == 0 ? 8 : 7, a % 2 == 0 ? 7 : 8);
            }
            x.addChannel(9, 0, prod, 8);
            for (int c = 0; c < 10; c++) {
                x.setTokens(c, 16);
                x.setCapacity(c, 32);
            }
            // Four pairs of channels cancel out; the fifth's 8 to 7 is left for the last channel to undo.
            verdict("a ring closed by " + prod, x, prod == 7 ? SdfScheduler.V_OK : SdfScheduler.V_INCONSISTENT);
        }
    }

    /** Test 3: "Q > 256". */
    private static void lengthOf256() {
        SdfScheduler x = Graphs.graph(6, Graphs.ch(0, 1, 8, 1), Graphs.ch(1, 2, 8, 1), Graphs.ch(2, 3, 2, 1),
            Graphs.ch(1, 4, 6, 1), Graphs.ch(0, 5, 6, 1));
        verdict("Q 255", x, SdfScheduler.V_OK);
        Checks.due("scheduleLength()", x.scheduleLength(), 255);
        x.addActor();
        verdict("Q 256", x, SdfScheduler.V_OK);
        Checks.due("scheduleLength()", x.scheduleLength(), 256);
        x.addActor();
        verdict("Q 257", x, SdfScheduler.V_TOO_LONG);
        Checks.due("scheduleLength()", x.scheduleLength(), 0);
        Checks.due("repetitions(3)", x.repetitions(3), 128);
        x.addActor();
        verdict("Q 258", x, SdfScheduler.V_TOO_LONG);
    }

    /** Test 3: Q far above, where a narrower number would have come round to a small one. */
    private static void lengthFarAbove() {
        for (int actors = 4; actors <= 10; actors++) {
            SdfScheduler x = Graphs.graph(actors);
            for (int a = 1; a < actors; a++) {
                x.addChannel(a - 1, a, 8, 1);
            }
            verdict("powers of 8 up to " + (actors - 1), x, SdfScheduler.V_TOO_LONG);
        }
    }

    /** All of the 256 firings but the last: that one's self-loop has no token. */
    private static final int[][] ALL_BUT_THE_LAST = {
        {1, 0, 1, 8}, {2, 1, 1, 8}, {3, 2, 1, 2}, {4, 1, 1, 6}, {5, 0, 1, 7}, {0, 0, 1, 1}};

    /** Test 4: "the schedule built has fewer than Q entries", by one. */
    private static void oneEntryShort() {
        SdfScheduler x = Graphs.graph(6, ALL_BUT_THE_LAST);
        verdict("255 entries of 256", x, SdfScheduler.V_DEADLOCK);
        Checks.due("scheduleLength()", x.scheduleLength(), 255);
        x.setTokens(5, 1);
        verdict("256 entries of 256", x, SdfScheduler.V_OK);
        Checks.due("scheduleLength()", x.scheduleLength(), 256);
        SdfScheduler y = Graphs.graph(2, Graphs.ch(1, 1, 1, 1));
        verdict("one entry of two", y, SdfScheduler.V_DEADLOCK);
        Checks.due("scheduleLength()", y.scheduleLength(), 1);
    }

    /**
     * "exactly in this case": a channel of rates p and c with d tokens goes round when its capacity is at least
     * p + c - g + d % g, where g is their greatest common divisor, and stops when it is one less.
     */
    private static void leastCapacity() {
        for (int p = 1; p <= 8; p++) {
            for (int c = 1; c <= 8; c++) {
                for (int d = 0; d <= 15; d++) {
                    int g = gcd(p, c);
                    int least = Math.max(1, Math.max(d, p + c - g + d % g));
                    boundedChannel(p, c, d, least, SdfScheduler.V_OK);
                    boundedChannel(p, c, d, least + 1, SdfScheduler.V_OK);
                    if (least > d && least > 1) {
                        boundedChannel(p, c, d, least - 1, SdfScheduler.V_DEADLOCK);
                    }
                }
            }
        }
    }

    private static void boundedChannel(int p, int c, int d, int cap, int due) {
        String what = p + " to " + c + " with " + d + " tokens and capacity " + cap;
        verdict(what, Graphs.graph(2, Graphs.ch(0, 1, p, c, d, cap)), due);
        verdict(what + ", the reader first", Graphs.graph(2, Graphs.ch(1, 0, p, c, d, cap)), due);
    }

    /** "exactly in this case": the same of a ring of two channels and the tokens on one of them. */
    private static void leastTokensOfARing() {
        for (int p = 1; p <= 8; p++) {
            for (int c = 1; c <= 8; c++) {
                int least = p + c - gcd(p, c);
                verdict("a ring of " + p + " and " + c + " with just enough",
                    Graphs.graph(2, Graphs.ch(0, 1, p, c), Graphs.ch(1, 0, c, p, least)), SdfScheduler.V_OK);
                verdict("a ring of " + p + " and " + c + " one token short",
                    Graphs.graph(2, Graphs.ch(0, 1, p, c), Graphs.ch(1, 0, c, p, least - 1)),
                    SdfScheduler.V_DEADLOCK);
            }
        }
    }

    /** Terms: "For a self-loop both tests apply, and both use the count before the firing." */
    private static void bothTestsOfASelfLoop() {
        for (int rate = 1; rate <= 8; rate++) {
            for (int tokens = 0; tokens <= 17; tokens++) {
                for (int cap = Math.max(1, tokens); cap <= 26; cap++) {
                    boolean goes = tokens >= rate && tokens + rate <= cap;
                    verdict("a self-loop of " + rate + ", tokens " + tokens + ", capacity " + cap,
                        Graphs.graph(1, Graphs.ch(0, 0, rate, rate, tokens, cap)),
                        goes ? SdfScheduler.V_OK : SdfScheduler.V_DEADLOCK);
                }
            }
        }
    }

    /** Test 5: "the sum of bound(c) over all channels > 512", over a full table. */
    private static void storeOf512() {
        SdfScheduler x = Graphs.selfLoops(24, 22);
        x.setTokens(23, 5);
        verdict("24 bounds of 511", x, SdfScheduler.V_OK);
        x.setTokens(23, 6);
        verdict("24 bounds of 512", x, SdfScheduler.V_OK);
        x.setTokens(23, 7);
        verdict("24 bounds of 513", x, SdfScheduler.V_TOO_BIG);
        x.setTokens(23, 6);
        x.setTokens(0, 23);
        verdict("24 bounds of 513, the first the greater", x, SdfScheduler.V_TOO_BIG);
    }

    /** Test 5: it is the bounds that count, not the tokens at the start nor the capacities. */
    private static void storeOfBounds() {
        SdfScheduler x = Graphs.graph(4,
            Graphs.ch(0, 1, 8, 1, 24), Graphs.ch(1, 2, 8, 1), Graphs.ch(2, 3, 6, 6, 32));
        verdict("bounds 32, 64 and 416", x, SdfScheduler.V_OK);
        Checks.due("bound(2)", x.bound(2), 416);
        x.setTokens(0, 25);
        verdict("bounds 33, 64 and 416", x, SdfScheduler.V_TOO_BIG);
        SdfScheduler y = Graphs.selfLoops(24, 21);
        for (int c = 0; c < 24; c++) {
            y.setCapacity(c, 64);
        }
        verdict("capacities of 1536, bounds of 504", y, SdfScheduler.V_OK);
    }

    /** "It tests, in order": each pair of verdicts that one graph can call for. */
    private static void orderOfTests() {
        SdfScheduler x = Graphs.selfLoops(17, 32);
        x.addChannel(0, 0, 2, 1);
        verdict("inconsistent and too big", x, SdfScheduler.V_INCONSISTENT);
        SdfScheduler y = Graphs.tooLong();
        for (int c = 5; c < 24; c++) {
            Checks.due("addChannel()", y.addChannel(6, 6, 1, 1), c);
            y.setTokens(c, 32);
        }
        verdict("too long and too big", y, SdfScheduler.V_TOO_LONG);
        SdfScheduler z = Graphs.selfLoops(17, 32);
        z.setCapacity(3, 32);
        verdict("stopping for want of room and too big", z, SdfScheduler.V_DEADLOCK);
    }

    /** "The graph itself is unchanged", whatever the verdict. */
    private static void graphIsUnchanged() {
        for (int verdict : States.ALL) {
            SdfScheduler x = States.of(verdict);
            SdfScheduler built = new SdfScheduler(
                States.actors(verdict) + 2, States.channels(verdict).length + 2);
            Graphs.fill(built, States.actors(verdict), States.channels(verdict));
            x.analyze();
            x.analyze();
            States.alike("after analyze() with verdict " + verdict, x, built);
        }
    }

    /** "Calling analyze() again on an unchanged graph": the periods are counted anew, too. */
    private static void againAfterRuns() {
        SdfScheduler x = States.of(SdfScheduler.V_OK);
        Checks.due("run(256)", x.run(256), 52);
        verdict("a graph that has run", x, SdfScheduler.V_OK);
        SdfScheduler fresh = Graphs.graph(2, States.channels(SdfScheduler.V_OK));
        fresh.analyze();
        Checks.due("analyzed again", Checks.shown(x), Checks.shown(fresh));
        Checks.due("run(4)", x.run(4), 0);
        Checks.due("run(1)", x.run(1), 1);
    }

    /** "When the verdict is V_OK": its three sentences, on graphs at the edges. */
    private static void whatOkMeans() {
        okMeans(1);
        okMeans(10);
        okMeans(6, Graphs.PERIOD_OF_256);
        okMeans(6, Graphs.ch(1, 0, 1, 8), Graphs.ch(2, 1, 1, 8), Graphs.ch(3, 2, 1, 2), Graphs.ch(4, 1, 1, 6));
        okMeans(2, Graphs.ch(0, 1, 7, 8), Graphs.ch(1, 0, 8, 7, 14));
        okMeans(2, Graphs.ch(1, 0, 8, 7, 0, 14), Graphs.ch(1, 1, 8, 8, 8, 16));
        okMeans(3, Graphs.ch(0, 1, 8, 7, 32, 64), Graphs.ch(2, 1, 5, 6));
    }

    private static void okMeans(int actors, int[]... channels) {
        SdfScheduler x = Graphs.graph(actors, channels);
        verdict("a graph of " + actors + " actors", x, SdfScheduler.V_OK);
        long total = 0;
        for (int a = 0; a < actors; a++) {
            long entries = 0;
            for (int i = 0; i < x.scheduleLength(); i++) {
                entries += x.scheduleAt(i) == a ? 1 : 0;
            }
            Checks.due("entries of actor " + a, entries, x.repetitions(a));
            total += x.repetitions(a);
        }
        Checks.due("scheduleLength()", x.scheduleLength(), total);
        for (int[] c : channels) {
            Checks.due("balance", x.repetitions(c[0]) * c[2], x.repetitions(c[1]) * c[3]);
        }
    }

    public static void main(String[] args) {
        emptyGraph();
        balanceOfSelfLoops();
        balanceOfTwoChannels();
        balanceOfALongRing();
        lengthOf256();
        lengthFarAbove();
        oneEntryShort();
        leastCapacity();
        leastTokensOfARing();
        bothTestsOfASelfLoop();
        storeOf512();
        storeOfBounds();
        orderOfTests();
        graphIsUnchanged();
        againAfterRuns();
        whatOkMeans();
        Checks.finish();
    }
}
