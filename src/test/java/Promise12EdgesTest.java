/** The edges of promise 12, each sentence on its own. */
public final class Promise12EdgesTest {
    /** Graphs at the edges; each has the verdict V_OK. */
    private static final int[][][] GRAPHS = {
        {},
        {{0, 0, 1, 1, 1}},
        {{0, 0, 8, 8, 8, 16}, {0, 0, 1, 1, 32}, {0, 0, 1, 1, 32, 64}},
        {{0, 1, 8, 7, 0, 14}, {1, 0, 7, 8, 32}},
        {{1, 0, 7, 8, 32, 32}, {1, 0, 7, 8, 32}},
        {{0, 1, 8, 1, 0, 8}, {1, 2, 8, 1, 0, 64}, {2, 3, 1, 1, 0, 1}},
        {{0, 1, 8, 1, 24}, {1, 2, 8, 1}, {2, 3, 6, 6, 32}},
        {{1, 0, 1, 8}, {2, 1, 1, 8}, {3, 2, 1, 2}, {4, 1, 1, 6}, {5, 0, 1, 7}},
        fullTable()};
    private static final int[] ACTORS = {10, 1, 1, 2, 2, 4, 4, 6, 10};

    private static int[][] fullTable() {
        int[][] channels = new int[24][];
        for (int c = 0; c < 24; c++) {
            channels[c] = Graphs.ch(c % 10, (c + c / 10) % 10, 1 + c % 8, 1 + c % 8, 8 + c % 9, 25);
        }
        return channels;
    }

    private static SdfScheduler analyzed(int graph) {
        SdfScheduler x = Graphs.graph(ACTORS[graph], GRAPHS[graph]);
        Checks.due("analyze() of graph " + graph, x.analyze(), SdfScheduler.V_OK);
        return x;
    }

    /** Refusal 2: "steps is not in 1..256". */
    private static void firstAndLastNumberOfSteps() {
        for (int steps = -3; steps <= 520; steps++) {
            boolean taken = steps >= 1 && steps <= 256;
            SdfScheduler x = Graphs.graph(1);
            x.analyze();
            Checks.due("run(" + steps + ") of one actor", x.run(steps), taken ? steps : -1);
            Checks.due("fired(0) after run(" + steps + ")", x.fired(0), taken ? steps : 0);
        }
        for (int steps : States.FAR_OFF) {
            SdfScheduler x = Graphs.graph(1);
            x.analyze();
            Checks.due("run(" + steps + ")", x.run(steps), -1);
        }
    }

    /** Refusal 1: "verdict != V_OK", with steps that are right, and with both refusals at once. */
    private static void refusedWithEveryVerdict() {
        int[] right = {1, 2, 255, 256};
        int[] wrong = {0, -1, 257, Integer.MIN_VALUE, Integer.MAX_VALUE};
        for (int verdict : States.ALL) {
            for (int steps : right) {
                if (verdict != SdfScheduler.V_OK) {
                    refused(verdict, steps);
                }
            }
            for (int steps : wrong) {
                refused(verdict, steps);
            }
        }
    }

    private static void refused(int verdict, int steps) {
        String call = "run(" + steps + ")";
        States.unchanged(call, verdict, x -> Checks.due(call, x.run(steps), -1));
    }

    /** "does steps executor steps, one after another": as many calls of run(1) come to the same. */
    private static void manyStepsAreSingleSteps() {
        for (int graph = 0; graph < GRAPHS.length; graph++) {
            SdfScheduler x = analyzed(graph);
            SdfScheduler single = analyzed(graph);
            for (int steps = 1; steps <= 256; steps += steps < 9 || steps > 250 ? 1 : 17) {
                int periods = 0;
                for (int i = 0; i < steps; i++) {
                    periods = single.run(1);
                }
                Checks.due("run(" + steps + ") of graph " + graph, x.run(steps), periods);
                Checks.due("after run(" + steps + ") of graph " + graph, Checks.shown(x), Checks.shown(single));
            }
        }
    }

    /** "the number of completed periods since the last analyze(), counted after the last step". */
    private static void periodsAreCompleted() {
        for (int graph = 0; graph < GRAPHS.length; graph++) {
            SdfScheduler x = analyzed(graph);
            int length = x.scheduleLength();
            long steps = 0;
            for (int i = 0; i < 200; i++) {
                int now = i % 3 == 0 ? 1 : i % 3 == 1 ? length : 256;
                steps += now;
                Checks.due("run(" + now + ") after " + steps + " steps", x.run(now), steps / length);
            }
            x.analyze();
            Checks.due("run(1) after analyze()", x.run(1), 1 / length);
        }
    }

    /** "it never changes the graph, verdict, repetitions, schedule or bounds". */
    private static void onlyTheExecutorChanges() {
        for (int graph = 0; graph < GRAPHS.length; graph++) {
            SdfScheduler x = analyzed(graph);
            String before = results(x);
            for (int i = 0; i < 50; i++) {
                x.run(1 + i * 5);
                Checks.due("results of graph " + graph, results(x), before);
            }
            States.alike("of graph " + graph + " after runs", x, analyzed(graph));
        }
    }

    private static String results(SdfScheduler x) {
        StringBuilder s = new StringBuilder("verdict " + x.verdict() + " " + Checks.schedule(x));
        for (int a = -1; a <= 10; a++) {
            s.append(" q ").append(x.repetitions(a));
        }
        for (int c = -1; c <= 24; c++) {
            s.append(" bound ").append(x.bound(c));
        }
        return s.toString();
    }

    /** The four sentences of what holds "at every point across any number of run calls". */
    private static void whatHoldsAtEveryPoint() {
        for (int graph = 0; graph < GRAPHS.length; graph++) {
            SdfScheduler x = analyzed(graph);
            int[] count = new int[GRAPHS[graph].length];
            int[] greatest = new int[count.length];
            for (int c = 0; c < count.length; c++) {
                count[c] = tokens(GRAPHS[graph][c]);
                greatest[c] = count[c];
            }
            for (int i = 0; i < 1000; i++) {
                oneStep(x, GRAPHS[graph], count);
                for (int c = 0; c < count.length; c++) {
                    greatest[c] = Math.max(greatest[c], count[c]);
                }
            }
            for (int c = 0; c < count.length; c++) {
                Checks.due("bound(" + c + ") of graph " + graph, x.bound(c), greatest[c]);
            }
        }
    }

    private static int tokens(int[] channel) {
        return channel.length > 4 ? channel[4] : 0;
    }

    private static void oneStep(SdfScheduler x, int[][] channels, int[] count) {
        int a = x.scheduleAt(x.position());
        for (int c = 0; c < channels.length; c++) {
            int[] ch = channels[c];
            Checks.due("a step finds its tokens", ch[1] != a || x.tokenCount(c) >= ch[3], true);
            count[c] += (ch[0] == a ? ch[2] : 0) - (ch[1] == a ? ch[3] : 0);
        }
        x.run(1);
        for (int c = 0; c < channels.length; c++) {
            int[] ch = channels[c];
            int now = x.tokenCount(c);
            Checks.due("tokenCount(" + c + ")", now, count[c]);
            Checks.due("0 to bound(" + c + ")", now >= 0 && now <= x.bound(c), true);
            Checks.due("within capacity", ch.length < 6 || ch[5] == 0 || now <= ch[5], true);
            Checks.due("init at position 0", x.position() != 0 || now == tokens(ch), true);
        }
    }

    public static void main(String[] args) {
        firstAndLastNumberOfSteps();
        refusedWithEveryVerdict();
        manyStepsAreSingleSteps();
        periodsAreCompleted();
        onlyTheExecutorChanges();
        whatHoldsAtEveryPoint();
        Checks.finish();
    }
}
