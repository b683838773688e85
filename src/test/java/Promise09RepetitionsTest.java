public final class Promise09RepetitionsTest {
    private static void repetitions(SdfScheduler x, int verdict, long... due) {
        Checks.due("analyze()", x.analyze(), verdict);
        for (int a = 0; a < due.length; a++) {
            Checks.due("repetitions(" + a + ")", x.repetitions(a), due[a]);
        }
        int[] wrong = {-1, due.length, 10, Integer.MIN_VALUE, Integer.MAX_VALUE};
        for (int a : wrong) {
            Checks.due("repetitions(" + a + ")", x.repetitions(a), 0);
        }
    }

    private static void leastInEachPart() {
        repetitions(Graphs.graph(1), SdfScheduler.V_OK, 1);
        repetitions(Graphs.graph(2, Graphs.ch(0, 1, 4, 6)), SdfScheduler.V_OK, 3, 2);
        repetitions(Graphs.graph(2, Graphs.ch(0, 1, 8, 8)), SdfScheduler.V_OK, 1, 1);
        repetitions(Graphs.graph(3, Graphs.ch(0, 1, 2, 3), Graphs.ch(1, 2, 1, 2)), SdfScheduler.V_OK, 3, 2, 1);
        repetitions(Graphs.graph(3, Graphs.ch(2, 1, 2, 3), Graphs.ch(1, 0, 1, 2)), SdfScheduler.V_OK, 1, 2, 3);
        repetitions(Graphs.graph(3, Graphs.ch(0, 1, 6, 4), Graphs.ch(2, 1, 4, 6)), SdfScheduler.V_OK, 4, 6, 9);
        repetitions(Graphs.graph(6, Graphs.ch(0, 2, 2, 3), Graphs.ch(5, 1, 1, 7), Graphs.ch(4, 4, 3, 3, 3)),
            SdfScheduler.V_OK, 3, 1, 2, 1, 1, 7);
    }

    /** The parts' actors interleave, and the channels that join a part come in the order that helps least. */
    private static void partsThatInterleave() {
        repetitions(Graphs.graph(8,
                Graphs.ch(6, 4, 1, 2), Graphs.ch(4, 2, 1, 2), Graphs.ch(2, 0, 1, 2),
                Graphs.ch(7, 5, 3, 1), Graphs.ch(5, 3, 1, 1), Graphs.ch(3, 1, 1, 3)),
            SdfScheduler.V_OK, 1, 1, 2, 3, 4, 3, 8, 1);
        repetitions(Graphs.graph(6, Graphs.ch(0, 2, 2, 3), Graphs.ch(1, 3, 1, 2), Graphs.ch(3, 5, 1, 2)),
            SdfScheduler.V_OK, 3, 4, 2, 2, 1, 1);
    }

    private static void withEachVerdict() {
        repetitions(Graphs.graph(2, Graphs.ch(0, 1, 2, 3), Graphs.ch(1, 0, 3, 2)), SdfScheduler.V_DEADLOCK, 3, 2);
        repetitions(Graphs.tooBig(), SdfScheduler.V_TOO_BIG, 1);
        repetitions(Graphs.tooLong(), SdfScheduler.V_TOO_LONG,
            1, 8, 64, 128, 48, 7, 1);
        SdfScheduler x = Graphs.graph(2, Graphs.ch(0, 1, 2, 3));
        Checks.due("repetitions(0) before analyze()", x.repetitions(0), 0);
        x.analyze();
        x.addChannel(0, 1, 1, 1);
        Checks.due("repetitions(0) after an edit", x.repetitions(0), 0);
        repetitions(x, SdfScheduler.V_INCONSISTENT, 0, 0);
        x.clear();
        repetitions(x, SdfScheduler.V_EMPTY, 0, 0);
    }

    private static SdfScheduler chain(int prod, int cons) {
        SdfScheduler x = Graphs.graph(10);
        for (int c = 0; c < 9; c++) {
            x.addChannel(c, c + 1, prod, cons);
        }
        return x;
    }

    private static long power(long base, int exponent) {
        return exponent == 0 ? 1L : base * power(base, exponent - 1);
    }

    private static void theLargest() {
        int[][] rates = {{8, 1}, {1, 8}, {8, 7}, {7, 8}, {5, 6}, {3, 2}};
        for (int[] rate : rates) {
            long[] due = new long[10];
            for (int a = 0; a < 10; a++) {
                due[a] = power(rate[0], a) * power(rate[1], 9 - a);
            }
            repetitions(chain(rate[0], rate[1]), SdfScheduler.V_TOO_LONG, due);
        }
    }

    public static void main(String[] args) {
        leastInEachPart();
        partsThatInterleave();
        withEachVerdict();
        theLargest();
        Checks.finish();
    }
}
