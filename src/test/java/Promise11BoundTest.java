public final class Promise11BoundTest {
    private static void bounds(SdfScheduler x, int verdict, int... due) {
        Checks.due("analyze()", x.analyze(), verdict);
        for (int c = 0; c < due.length; c++) {
            Checks.due("bound(" + c + ")", x.bound(c), due[c]);
        }
        int[] wrong = {-1, due.length, 24, Integer.MIN_VALUE, Integer.MAX_VALUE};
        for (int c : wrong) {
            Checks.due("bound(" + c + ")", x.bound(c), -1);
        }
        x.run(1);
        for (int c = 0; c < due.length; c++) {
            Checks.due("bound(" + c + ") while running", x.bound(c), due[c]);
        }
    }

    private static void greatestCount() {
        bounds(Graphs.graph(2, Graphs.ch(0, 1, 2, 3)), SdfScheduler.V_OK, 6);
        bounds(Graphs.graph(2, Graphs.ch(0, 1, 2, 3, 5)), SdfScheduler.V_OK, 11);
        bounds(Graphs.graph(2, Graphs.ch(0, 1, 2, 3, 0, 4)), SdfScheduler.V_OK, 4);
        bounds(Graphs.graph(2, Graphs.ch(1, 0, 2, 3)), SdfScheduler.V_OK, 4);
        bounds(Graphs.graph(3, Graphs.ch(0, 1, 1, 1), Graphs.ch(1, 2, 2, 4, 1)), SdfScheduler.V_OK, 2, 5);
    }

    /** The initial state counts, though no firing ever comes back above it. */
    private static void initialState() {
        bounds(Graphs.graph(2, Graphs.ch(1, 0, 1, 1, 7)), SdfScheduler.V_OK, 7);
        bounds(Graphs.graph(2, Graphs.ch(0, 1, 1, 1), Graphs.ch(1, 0, 1, 1, 32)), SdfScheduler.V_OK, 1, 32);
        bounds(Graphs.graph(1, Graphs.ch(0, 0, 1, 1), Graphs.ch(0, 0, 2, 2, 9)), SdfScheduler.V_DEADLOCK, 0, 9);
    }

    /** A self-loop's count is back when the firing is done; between its two stages there is no state. */
    private static void selfLoop() {
        bounds(Graphs.graph(1, Graphs.ch(0, 0, 4, 4, 4)), SdfScheduler.V_OK, 4);
        bounds(Graphs.graph(1, Graphs.ch(0, 0, 8, 8, 20, 28)), SdfScheduler.V_OK, 20);
    }

    private static void withEachVerdict() {
        bounds(Graphs.graph(2, Graphs.ch(0, 1, 2, 3, 0, 3)), SdfScheduler.V_DEADLOCK, 2);
        bounds(Graphs.selfLoops(2, 0), SdfScheduler.V_DEADLOCK, 0, 0);
        SdfScheduler big = Graphs.selfLoops(17, 31);
        Checks.due("analyze()", big.analyze(), SdfScheduler.V_TOO_BIG);
        Checks.due("bound(16)", big.bound(16), 31);
        Checks.due("bound(17)", big.bound(17), -1);
        SdfScheduler x = Graphs.graph(2, Graphs.ch(0, 1, 1, 1));
        Checks.due("bound(0) before analyze()", x.bound(0), -1);
        x.analyze();
        x.setCapacity(0, 0);
        Checks.due("bound(0) after an edit", x.bound(0), -1);
        SdfScheduler tooLong = Graphs.tooLong();
        bounds(tooLong, SdfScheduler.V_TOO_LONG, -1, -1, -1);
        tooLong.addChannel(0, 0, 1, 2);
        bounds(tooLong, SdfScheduler.V_INCONSISTENT, -1, -1);
    }

    public static void main(String[] args) {
        greatestCount();
        initialState();
        selfLoop();
        withEachVerdict();
        Checks.finish();
    }
}
