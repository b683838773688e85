/** What the tests share: comparing answers, and seeing all that an object shows. */
final class Checks {
    private static int wrong = 0;
    private static int made = 0;

    private Checks() {
    }

    static void due(String call, long got, long want) {
        made++;
        if (got != want) {
            tell(call + " answered " + got + ", due is " + want);
        }
    }

    static void due(String call, boolean got, boolean want) {
        due(call, got ? 1L : 0L, want ? 1L : 0L);
    }

    static void due(String what, String got, String want) {
        made++;
        if (!got.equals(want)) {
            tell(what + ":\n  shows  " + got + "\n  due is " + want);
        }
    }

    private static void tell(String line) {
        wrong++;
        if (wrong <= 50) {
            System.out.println(line);
        }
    }

    static void finish() {
        System.out.println(made + " checks, " + wrong + " wrong");
        if (wrong != 0 || made == 0) {
            System.exit(1);
        }
    }

    /** The refused call stands between two looks at the object; then the graph shows itself in analyze(). */
    static void changesNothing(String call, SdfScheduler x, SdfScheduler twin, Runnable refused) {
        String before = shown(x);
        refused.run();
        due("after " + call, shown(x), before);
        x.analyze();
        twin.analyze();
        due("analyzed after " + call, shown(x), shown(twin));
    }

    /** Analyzed and three steps on, so that a refused call has an executor state to harm. */
    static void analyzeAndRun(SdfScheduler x) {
        x.analyze();
        x.run(3);
    }

    static String schedule(SdfScheduler x) {
        StringBuilder s = new StringBuilder();
        for (int i = 0; i < x.scheduleLength(); i++) {
            s.append(i == 0 ? "" : " ").append(x.scheduleAt(i));
        }
        return s.toString();
    }

    static String tokens(SdfScheduler x, int ch) {
        StringBuilder s = new StringBuilder();
        for (int pos = 0; pos < x.tokenCount(ch); pos++) {
            s.append(pos == 0 ? "" : " ").append(x.tokenValue(ch, pos));
        }
        return s.toString();
    }

    static String shown(SdfScheduler x) {
        return Face.shown(Face.of(x));
    }
}
