public final class Promise01ConstructionTest {
    private static void sizes(int maxActors, int maxChannels, int actors, int channels) {
        String made = "new SdfScheduler(" + maxActors + ", " + maxChannels + ")";
        SdfScheduler x = new SdfScheduler(maxActors, maxChannels);
        Checks.due(made, Checks.shown(x), Checks.shown(new SdfScheduler(2, 1)));
        countTables(made, x, actors, channels);
        x.analyze();
        x.clear();
        countTables(made + " after clear()", x, actors, channels);
    }

    private static void countTables(String made, SdfScheduler x, int actors, int channels) {
        for (int a = 0; a < actors; a++) {
            Checks.due(made + " addActor()", x.addActor(), a);
        }
        Checks.due(made + " addActor() when full", x.addActor(), -1);
        for (int c = 0; c < channels; c++) {
            Checks.due(made + " addChannel()", x.addChannel(0, 1, 1, 1), c);
        }
        Checks.due(made + " addChannel() when full", x.addChannel(0, 1, 1, 1), -1);
    }

    private static void startsEmpty() {
        SdfScheduler x = new SdfScheduler(5, 5);
        Checks.due("verdict()", x.verdict(), SdfScheduler.V_NONE);
        Checks.due("repetitions(0)", x.repetitions(0), 0);
        Checks.due("scheduleLength()", x.scheduleLength(), 0);
        Checks.due("scheduleAt(0)", x.scheduleAt(0), -1);
        Checks.due("bound(0)", x.bound(0), -1);
        Checks.due("run(1)", x.run(1), -1);
        Checks.due("position()", x.position(), -1);
        Checks.due("tokenCount(0)", x.tokenCount(0), -1);
        Checks.due("tokenValue(0, 0)", x.tokenValue(0, 0), 0);
        Checks.due("fired(0)", x.fired(0), -1);
        Checks.due("addChannel(0, 0, 1, 1)", x.addChannel(0, 0, 1, 1), -1);
    }

    public static void main(String[] args) {
        startsEmpty();
        sizes(2, 1, 2, 1);
        sizes(1, 0, 2, 1);
        sizes(3, 2, 3, 2);
        sizes(9, 23, 9, 23);
        sizes(10, 24, 10, 24);
        sizes(11, 25, 10, 24);
        sizes(0, 0, 2, 1);
        sizes(-1, -1, 2, 1);
        sizes(-1, 24, 2, 24);
        sizes(10, -1, 10, 1);
        sizes(Integer.MAX_VALUE, Integer.MAX_VALUE, 10, 24);
        sizes(Integer.MIN_VALUE, Integer.MIN_VALUE, 2, 1);
        Checks.finish();
    }
}
