public final class Promise14TokensTest {
    private static void initialTokensAreZeros() {
        SdfScheduler x = Graphs.graph(2, Graphs.ch(0, 1, 1, 1, 3), Graphs.ch(1, 0, 1, 1, 32));
        x.analyze();
        x.run(256);
        x.analyze();
        Checks.due("channel 0", Checks.tokens(x, 0), "0 0 0");
        Checks.due("channel 1", Checks.tokens(x, 1), "0" + " 0".repeat(31));
    }

    private static void headAndTail() {
        SdfScheduler x = Graphs.graph(2, Graphs.ch(0, 1, 1, 1, 2));
        x.analyze();
        Checks.due("schedule", Checks.schedule(x), "0 1");
        x.run(1);
        Checks.due("channel 0", Checks.tokens(x, 0), "0 0 1");
        x.run(1);
        Checks.due("channel 0", Checks.tokens(x, 0), "0 1");
        x.run(1);
        Checks.due("channel 0", Checks.tokens(x, 0), "0 1 2");
        x.run(2);
        Checks.due("channel 0", Checks.tokens(x, 0), "1 2 3");
        for (int i = 4; i < 2000; i++) {
            x.run(2);
            Checks.due("channel 0", Checks.tokens(x, 0), (i - 2) + " " + (i - 1) + " " + i);
        }
    }

    /** Both channels into actor 1 add to its sum, and a self-loop gives back what it took. */
    private static void sumOverInputs() {
        SdfScheduler x = Graphs.graph(3,
            Graphs.ch(0, 1, 2, 2), Graphs.ch(0, 1, 1, 1, 1), Graphs.ch(1, 1, 1, 1, 1), Graphs.ch(1, 2, 1, 1));
        x.analyze();
        Checks.due("run(2)", x.run(2), 0);
        Checks.due("31 * (1 + 1 + 0 + 0) + 0 + 1", Checks.tokens(x, 3), "63");
        Checks.due("self-loop", Checks.tokens(x, 2), "63");
        Checks.due("delayed", Checks.tokens(x, 1), "1");
        Checks.due("run(3)", x.run(3), 1);
        Checks.due("31 * (2 + 2 + 1 + 63) + 1 + 1", Checks.tokens(x, 3), "2110");
    }

    private static void valuesWrapAround() {
        SdfScheduler x = Graphs.graph(1, Graphs.ch(0, 0, 3, 3, 3));
        x.analyze();
        int value = 0;
        for (int i = 0; i < 1000; i++) {
            value = 31 * (value + value + value) + i + 1;
            x.run(1);
            Checks.due("tokenValue(0, 0)", x.tokenValue(0, 0), value);
            Checks.due("tokenValue(0, 2)", x.tokenValue(0, 2), value);
        }
    }

    private static void wrongArguments() {
        SdfScheduler x = Graphs.graph(1, Graphs.ch(0, 0, 1, 1, 1));
        x.analyze();
        x.run(1);
        Checks.due("tokenValue(0, 0)", x.tokenValue(0, 0), 1);
        Checks.due("tokenValue(0, 1)", x.tokenValue(0, 1), 0);
        int[] wrong = {-1, 1, 24, Integer.MIN_VALUE, Integer.MAX_VALUE};
        for (int n : wrong) {
            Checks.due("tokenCount(" + n + ")", x.tokenCount(n), -1);
            Checks.due("tokenValue(" + n + ", 0)", x.tokenValue(n, 0), 0);
            Checks.due("tokenValue(0, " + n + ")", x.tokenValue(0, n), 0);
            Checks.due("tokenValue(" + n + ", " + n + ")", x.tokenValue(n, n), 0);
        }
        Checks.due("tokenCount(0)", x.tokenCount(0), 1);
    }

    /** The place behind the tail still has what was taken from it before: it must not show. */
    private static void takenTokensAreGone() {
        SdfScheduler x = Graphs.graph(2, Graphs.ch(0, 1, 1, 1));
        x.analyze();
        x.run(1);
        Checks.due("tokenValue(0, 0)", x.tokenValue(0, 0), 1);
        x.run(1);
        Checks.due("tokenCount(0)", x.tokenCount(0), 0);
        for (int pos = -600; pos <= 600; pos++) {
            Checks.due("tokenValue(0, " + pos + ")", x.tokenValue(0, pos), 0);
        }
    }

    private static void withOtherVerdicts() {
        SdfScheduler x = Graphs.graph(1, Graphs.ch(0, 0, 1, 1, 1));
        Checks.due("tokenCount(0) before analyze()", x.tokenCount(0), -1);
        x.analyze();
        x.run(1);
        x.setCapacity(0, 1);
        Checks.due("tokenCount(0) after an edit", x.tokenCount(0), -1);
        Checks.due("tokenValue(0, 0) after an edit", x.tokenValue(0, 0), 0);
        Checks.due("analyze()", x.analyze(), SdfScheduler.V_DEADLOCK);
        Checks.due("tokenCount(0) with V_DEADLOCK", x.tokenCount(0), -1);
        Checks.due("tokenValue(0, 0) with V_DEADLOCK", x.tokenValue(0, 0), 0);
        SdfScheduler big = Graphs.tooBig();
        big.analyze();
        Checks.due("tokenCount(0) with V_TOO_BIG", big.tokenCount(0), -1);
    }

    private static void aLongQueue() {
        SdfScheduler x = Graphs.graph(6, Graphs.PERIOD_OF_256);
        Checks.due("analyze()", x.analyze(), SdfScheduler.V_OK);
        x.run(1 + 8 + 64);
        Checks.due("tokenCount(2)", x.tokenCount(2), 128);
        for (int pos = 0; pos < 128; pos++) {
            int fired = pos / 2;
            int taken = 31 * 1 + fired / 8 + 1;
            Checks.due("tokenValue(2, " + pos + ")", x.tokenValue(2, pos), 31 * taken + fired + 1);
        }
    }

    public static void main(String[] args) {
        initialTokensAreZeros();
        headAndTail();
        sumOverInputs();
        valuesWrapAround();
        wrongArguments();
        takenTokensAreGone();
        withOtherVerdicts();
        aLongQueue();
        Checks.finish();
    }
}
