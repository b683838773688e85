/** The graphs that the tests share, and a short way to write down others. */
final class Graphs {
    /** Six actors whose repetitions 1, 8, 64, 128, 48 and 7 sum to 256. */
    static final int[][] PERIOD_OF_256 = {
        {0, 1, 8, 1}, {1, 2, 8, 1}, {2, 3, 2, 1}, {1, 4, 6, 1}, {0, 5, 7, 1}};

    private Graphs() {
    }

    /** Each channel is {src, dst, prod, cons}, and, where told, its tokens and its capacity. */
    static SdfScheduler graph(int actors, int[]... channels) {
        SdfScheduler x = new SdfScheduler(10, 24);
        fill(x, actors, channels);
        return x;
    }

    static void fill(SdfScheduler x, int actors, int[]... channels) {
        for (int a = 0; a < actors; a++) {
            Checks.due("addActor()", x.addActor(), a);
        }
        for (int c = 0; c < channels.length; c++) {
            int[] ch = channels[c];
            Checks.due("addChannel()", x.addChannel(ch[0], ch[1], ch[2], ch[3]), c);
            if (ch.length > 4) {
                Checks.due("setTokens()", x.setTokens(c, ch[4]), true);
            }
            if (ch.length > 5) {
                Checks.due("setCapacity()", x.setCapacity(c, ch[5]), true);
            }
        }
    }

    static int[] ch(int... numbers) {
        return numbers;
    }

    static SdfScheduler selfLoops(int number, int tokens) {
        SdfScheduler x = graph(1);
        for (int c = 0; c < number; c++) {
            x.addChannel(0, 0, 1, 1);
            x.setTokens(c, tokens);
        }
        return x;
    }

    static SdfScheduler tooLong() {
        return graph(7, PERIOD_OF_256);
    }

    static SdfScheduler tooBig() {
        return selfLoops(17, 32);
    }

    /** One for each verdict but V_NONE and V_OK, in their order, not analyzed yet. */
    static SdfScheduler[] withoutExecutor() {
        SdfScheduler empty = graph(0);
        SdfScheduler inconsistent = graph(1, ch(0, 0, 1, 2));
        SdfScheduler deadlock = graph(2, ch(1, 1, 1, 1));
        return new SdfScheduler[] {empty, inconsistent, tooLong(), deadlock, tooBig()};
    }
}
