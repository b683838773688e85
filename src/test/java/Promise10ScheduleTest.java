public final class Promise10ScheduleTest {
    private static void schedule(SdfScheduler x, int verdict, int length, String due) {
        Checks.due("analyze()", x.analyze(), verdict);
        Checks.due("scheduleLength()", x.scheduleLength(), length);
        Checks.due("schedule", Checks.schedule(x), due);
        int[] wrong = {-1, length, length + 1, 256, Integer.MIN_VALUE, Integer.MAX_VALUE};
        for (int i : wrong) {
            Checks.due("scheduleAt(" + i + ")", x.scheduleAt(i), -1);
        }
    }

    private static void leastEnabledFirst() {
        schedule(Graphs.graph(3), SdfScheduler.V_OK, 3, "0 1 2");
        schedule(Graphs.graph(2, Graphs.ch(0, 1, 2, 3)), SdfScheduler.V_OK, 5, "0 0 0 1 1");
        schedule(Graphs.graph(2, Graphs.ch(0, 1, 2, 3, 0, 4)), SdfScheduler.V_OK, 5, "0 0 1 0 1");
        schedule(Graphs.graph(2, Graphs.ch(1, 0, 2, 3)), SdfScheduler.V_OK, 5, "1 1 0 1 0");
        schedule(Graphs.graph(2, Graphs.ch(1, 0, 2, 3, 6)), SdfScheduler.V_OK, 5, "0 0 1 1 1");
        schedule(Graphs.graph(3, Graphs.ch(2, 1, 1, 2), Graphs.ch(1, 0, 1, 2)), SdfScheduler.V_OK, 7,
            "2 2 1 2 2 1 0");
        schedule(Graphs.graph(3, Graphs.ch(0, 1, 1, 1), Graphs.ch(1, 2, 1, 1), Graphs.ch(2, 0, 1, 1, 1)),
            SdfScheduler.V_OK, 3, "0 1 2");
    }

    private static void withEachVerdict() {
        schedule(Graphs.graph(1, Graphs.ch(0, 0, 1, 1)), SdfScheduler.V_DEADLOCK, 0, "");
        schedule(Graphs.graph(2, Graphs.ch(0, 1, 2, 3, 0, 3)), SdfScheduler.V_DEADLOCK, 1, "0");
        schedule(Graphs.graph(3, Graphs.ch(0, 0, 1, 1), Graphs.ch(1, 2, 1, 2)), SdfScheduler.V_DEADLOCK, 3, "1 1 2");
        schedule(Graphs.tooBig(), SdfScheduler.V_TOO_BIG, 1, "0");
        schedule(Graphs.tooLong(), SdfScheduler.V_TOO_LONG, 0, "");
        schedule(Graphs.graph(0), SdfScheduler.V_EMPTY, 0, "");
        SdfScheduler x = Graphs.graph(2, Graphs.ch(0, 1, 1, 1));
        Checks.due("scheduleLength() before analyze()", x.scheduleLength(), 0);
        Checks.due("scheduleAt(0) before analyze()", x.scheduleAt(0), -1);
        x.analyze();
        x.setTokens(0, 0);
        Checks.due("scheduleLength() after an edit", x.scheduleLength(), 0);
        Checks.due("scheduleAt(0) after an edit", x.scheduleAt(0), -1);
        x.addChannel(0, 1, 1, 2);
        schedule(x, SdfScheduler.V_INCONSISTENT, 0, "");
    }

    private static void theLongest() {
        SdfScheduler x = Graphs.graph(6, Graphs.PERIOD_OF_256);
        StringBuilder due = new StringBuilder("0");
        int[] repetitions = {1, 8, 64, 128, 48, 7};
        for (int a = 1; a < 6; a++) {
            due.append((" " + a).repeat(repetitions[a]));
        }
        schedule(x, SdfScheduler.V_OK, 256, due.toString());
        Checks.due("scheduleAt(255)", x.scheduleAt(255), 5);
    }

    public static void main(String[] args) {
        leastEnabledFirst();
        withEachVerdict();
        theLongest();
        Checks.finish();
    }
}
