public final class Promise09RepetitionsTest {
    private static void repetitions(SdfScheduler x, int verdict, long... due) {
        Checks.due("analyze()", x.analyze(), verdict);
        for (int a = 0; a < due.length; a++) {
            Checks.due("repetitions(" + a + ")", x.repetitions(a), due[a]);
        }
        int[] wrong = {-1, due.length, 10, Integer.MIN_VALUE, Integer.MAX_VALUE};
        for (int a : wrong) {
            Checks.due("repetitions(" + a + ")", x.repetitions(a), 0);
        }
    }

    private static void leastInEachPart() {
        repetitions(Checks.graph(1), SdfScheduler.V_OK, 1);
        repetitions(Checks.graph(2, Checks.ch(0, 1, 4, 6)), SdfScheduler.V_OK, 3, 2);
        repetitions(Checks.graph(2, Checks.ch(0, 1, 8, 8)), SdfScheduler.V_OK, 1, 1);
        repetitions(Checks.graph(3, Checks.ch(0, 1, 2, 3), Checks.ch(1, 2, 1, 2)), SdfScheduler.V_OK, 3, 2, 1);
        repetitions(Checks.graph(3, Checks.ch(2, 1, 2, 3), Checks.ch(1, 0, 1, 2)), SdfScheduler.V_OK, 1, 2, 3);
        repetitions(Checks.graph(3, Checks.ch(0, 1, 6, 4), Checks.ch(2, 1, 4, 6)), SdfScheduler.V_OK, 4, 6, 9);
        repetitions(Checks.graph(6, Checks.ch(0, 2, 2, 3), Checks.ch(5, 1, 1, 7), Checks.ch(4, 4, 3, 3, 3)),
            SdfScheduler.V_OK, 3, 1, 2, 1, 1, 7);
    }

    /** The parts' actors interleave, and the channels that join a part come in the order that helps least. */
    private static void partsThatInterleave() {
        repetitions(Checks.graph(8,
                Checks.ch(6, 4, 1, 2), Checks.ch(4, 2, 1, 2), Checks.ch(2, 0, 1, 2),
                Checks.ch(7, 5, 3, 1), Checks.ch(5, 3, 1, 1), Checks.ch(3, 1, 1, 3)),
            SdfScheduler.V_OK, 1, 1, 2, 3, 4, 3, 8, 1);
    }

    private static void withEachVerdict() {
        repetitions(Checks.graph(2, Checks.ch(0, 1, 2, 3), Checks.ch(1, 0, 3, 2)), SdfScheduler.V_DEADLOCK, 3, 2);
        repetitions(Promise07AnalyzeTest.selfLoops(17, 32), SdfScheduler.V_TOO_BIG, 1);
        repetitions(Checks.graph(7, Promise07AnalyzeTest.PERIOD_OF_256), SdfScheduler.V_TOO_LONG,
            1, 8, 64, 128, 48, 7, 1);
        SdfScheduler x = Checks.graph(2, Checks.ch(0, 1, 2, 3));
        Checks.due("repetitions(0) before analyze()", x.repetitions(0), 0);
        x.analyze();
        x.addChannel(0, 1, 1, 1);
        Checks.due("repetitions(0) after an edit", x.repetitions(0), 0);
        repetitions(x, SdfScheduler.V_INCONSISTENT, 0, 0);
        x.clear();
        repetitions(x, SdfScheduler.V_EMPTY, 0, 0);
    }

    private static SdfScheduler chain(int prod, int cons) {
        SdfScheduler x = Checks.graph(10);
        for (int c = 0; c < 9; c++) {
            x.addChannel(c, c + 1, prod, cons);
        }
        return x;
    }

    private static long power(long base, int exponent) {
        return exponent == 0 ? 1L : base * power(base, exponent - 1);
    }

    private static void theLargest() {
        int[][] rates = {{8, 1}, {1, 8}, {8, 7}, {7, 8}, {5, 6}, {3, 2}};
        for (int[] rate : rates) {
            long[] due = new long[10];
            for (int a = 0; a < 10; a++) {
                due[a] = power(rate[0], a) * power(rate[1], 9 - a);
            }
            repetitions(chain(rate[0], rate[1]), SdfScheduler.V_TOO_LONG, due);
        }
    }

    public static void main(String[] args) {
        leastInEachPart();
        partsThatInterleave();
        withEachVerdict();
        theLargest();
        Checks.finish();
    }
}
