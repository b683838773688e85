/** The edges of promise 10, each sentence on its own. */
public final class Promise10EdgesTest {
    private static String due(int verdict) {
        switch (verdict) {
            case SdfScheduler.V_OK:
                return "0 0 1 1 1";
            case SdfScheduler.V_DEADLOCK:
                return "0 0";
            case SdfScheduler.V_TOO_BIG:
                return "0 0 1 1 1";
            default:
                return "";
        }
    }

    /** "when the verdict is V_OK, V_DEADLOCK or V_TOO_BIG. Otherwise it answers 0", and -1 of each entry. */
    private static void everyVerdictAndArgument() {
        for (int verdict : States.ALL) {
            SdfScheduler x = States.of(verdict);
            String due = due(verdict);
            int length = (due.length() + 1) / 2;
            Checks.due("scheduleLength() with verdict " + verdict, x.scheduleLength(), length);
            for (int i = -2; i <= 300; i++) {
                int entry = i >= 0 && i < length ? due.charAt(2 * i) - '0' : -1;
                Checks.due("scheduleAt(" + i + ") with verdict " + verdict, x.scheduleAt(i), entry);
            }
            for (int i : States.FAR_OFF) {
                Checks.due("scheduleAt(" + i + ") with verdict " + verdict, x.scheduleAt(i), -1);
            }
        }
    }

    /** "With V_OK or V_TOO_BIG the length is Q", up to 256 of them. */
    private static void lengthIsQ() {
        SdfScheduler x = Graphs.graph(6, Graphs.PERIOD_OF_256);
        Checks.due("analyze()", x.analyze(), SdfScheduler.V_OK);
        Checks.due("scheduleLength() with V_OK", x.scheduleLength(), 256);
        for (int c = 0; c < 5; c++) {
            x.setTokens(c, 32);
        }
        Checks.due("analyze()", x.analyze(), SdfScheduler.V_OK);
        for (int c = 5; c < 14; c++) {
            x.addChannel(0, 0, 1, 1);
            x.setTokens(c, 32);
        }
        Checks.due("analyze()", x.analyze(), SdfScheduler.V_TOO_BIG);
        Checks.due("scheduleLength() with V_TOO_BIG", x.scheduleLength(), 256);
        Checks.due("scheduleAt(255)", x.scheduleAt(255), 5);
        Checks.due("scheduleAt(256)", x.scheduleAt(256), -1);
        SdfScheduler one = Graphs.graph(1);
        one.analyze();
        Checks.due("scheduleLength() of one actor", one.scheduleLength(), 1);
        Checks.due("scheduleAt(0)", one.scheduleAt(0), 0);
        Checks.due("scheduleAt(1)", one.scheduleAt(1), -1);
    }

    /** "With V_DEADLOCK it is the number of firings done ..., which is less than Q and may be 0." */
    private static void lengthBeforeTheStop() {
        for (int done = 0; done <= 8; done++) {
            SdfScheduler x = Graphs.graph(done + 1, Graphs.ch(done, done, 1, 1));
            Checks.due("analyze()", x.analyze(), SdfScheduler.V_DEADLOCK);
            Checks.due("scheduleLength()", x.scheduleLength(), done);
            Checks.due("the last entry", x.scheduleAt(done - 1), done - 1);
            Checks.due("the entry after it", x.scheduleAt(done), -1);
        }
    }

    /** What an earlier, longer schedule left must not show behind a shorter one. */
    private static void shorterThanBefore() {
        SdfScheduler x = Graphs.graph(6, Graphs.PERIOD_OF_256);
        x.analyze();
        x.addChannel(1, 1, 1, 1);
        Checks.due("analyze()", x.analyze(), SdfScheduler.V_DEADLOCK);
        Checks.due("schedule", Checks.schedule(x), "0 5 5 5 5 5 5 5");
        for (int i = 8; i < 300; i++) {
            Checks.due("scheduleAt(" + i + ")", x.scheduleAt(i), -1);
        }
        x.clear();
        x.addActor();
        x.analyze();
        Checks.due("scheduleLength()", x.scheduleLength(), 1);
        Checks.due("scheduleAt(1)", x.scheduleAt(1), -1);
    }

    /** Terms: an actor that has fired q(a) times waits for the next period, however many tokens it finds. */
    private static void noMoreThanItsRepetitions() {
        SdfScheduler x = Graphs.graph(2, Graphs.ch(1, 0, 1, 1, 32));
        x.analyze();
        Checks.due("schedule", Checks.schedule(x), "0 1");
        SdfScheduler y = Graphs.graph(3, Graphs.ch(1, 0, 2, 1, 32), Graphs.ch(2, 1, 1, 1, 32));
        y.analyze();
        Checks.due("schedule", Checks.schedule(y), "0 0 1 2");
    }

    /** Terms: enabled with just cons(c) tokens and just room for prod(c), and not with one less. */
    private static void justEnabled() {
        SdfScheduler x = Graphs.graph(2, Graphs.ch(1, 0, 8, 8, 7));
        x.analyze();
        Checks.due("schedule of 7 tokens", Checks.schedule(x), "1 0");
        x.setTokens(0, 8);
        x.analyze();
        Checks.due("schedule of 8 tokens", Checks.schedule(x), "0 1");
        SdfScheduler y = Graphs.graph(2, Graphs.ch(0, 1, 8, 8, 8, 15));
        y.analyze();
        Checks.due("schedule of room for 7", Checks.schedule(y), "1 0");
        y.setCapacity(0, 16);
        y.analyze();
        Checks.due("schedule of room for 8", Checks.schedule(y), "0 1");
    }

    /** "Both calls change nothing." */
    private static void changesNothing() {
        for (int verdict : States.ALL) {
            States.asked("scheduleLength() and scheduleAt()", verdict, x -> {
                x.scheduleLength();
                for (int i : States.FAR_OFF) {
                    x.scheduleAt(i);
                }
                for (int i = 0; i <= 256; i++) {
                    x.scheduleAt(i);
                }
            });
        }
    }

    public static void main(String[] args) {
        everyVerdictAndArgument();
        lengthIsQ();
        lengthBeforeTheStop();
        shorterThanBefore();
        noMoreThanItsRepetitions();
        justEnabled();
        changesNothing();
        Checks.finish();
    }
}
