/** The edges of promise 3, each sentence on its own. */
public final class Promise03EdgesTest {
    /** "If the number of actors equals the actor table size, addActor() is refused with -1". */
    private static void lastPlaceOfEveryTable() {
        for (int size = 2; size <= 10; size++) {
            SdfScheduler x = new SdfScheduler(size, 1);
            for (int a = 0; a < size; a++) {
                Checks.due("addActor() of a table of " + size, x.addActor(), a);
            }
            Checks.due("addActor() of a full table of " + size, x.addActor(), -1);
            Checks.due("addActor() of a full table of " + size, x.addActor(), -1);
            Checks.due("the last actor exists", x.addChannel(size - 1, size - 1, 1, 1), 0);
        }
    }

    /** "... and nothing changes": there is no full table without an actor, so no V_EMPTY here. */
    private static void refusedWithEveryVerdict() {
        for (int verdict : States.FILLED) {
            for (int freeChannels = 0; freeChannels < 2; freeChannels++) {
                States.unchanged("a refused addActor()", verdict, 0, freeChannels,
                    x -> Checks.due("addActor()", x.addActor(), -1));
            }
        }
    }

    /** "The verdict becomes V_NONE", results are discarded, "Existing actors and channels are unchanged". */
    private static void takenWithEveryVerdict() {
        for (int verdict : States.ALL) {
            int actors = States.actors(verdict);
            int[][] channels = States.channels(verdict);
            SdfScheduler x = States.of(verdict);
            Checks.due("addActor() with verdict " + verdict, x.addActor(), actors);
            States.discarded("after addActor() with verdict " + verdict, x);
            SdfScheduler built = new SdfScheduler(actors + 2, channels.length + 2);
            Graphs.fill(built, actors + 1, channels);
            States.alike("after addActor() with verdict " + verdict, x, built);
        }
    }

    /** "The new actor has no channels": also when an actor of its number had some before clear(). */
    private static void newActorHasNoChannels() {
        SdfScheduler x = Graphs.graph(2, Graphs.ch(0, 1, 8, 1, 1, 9), Graphs.ch(1, 1, 1, 1, 1));
        x.analyze();
        x.clear();
        for (int a = 0; a < 10; a++) {
            Checks.due("addActor()", x.addActor(), a);
            Checks.due("analyze()", x.analyze(), SdfScheduler.V_OK);
            Checks.due("repetitions(" + a + ")", x.repetitions(a), 1);
            Checks.due("scheduleLength()", x.scheduleLength(), a + 1);
            Checks.due("bound(0)", x.bound(0), -1);
        }
    }

    /** "Existing actors and channels are unchanged": all 24 of them, whether the call is taken or refused. */
    private static void besideAFullTableOfChannels() {
        SdfScheduler x = Graphs.selfLoops(24, 2);
        for (int a = 1; a <= 11; a++) {
            Checks.due("addActor()", x.addActor(), a < 10 ? a : -1);
            Checks.due("addChannel() of a full table", x.addChannel(0, 0, 1, 1), -1);
            Checks.due("setTokens(23, 2)", x.setTokens(23, 2), true);
            Checks.due("setTokens(24, 2)", x.setTokens(24, 2), false);
        }
        Checks.due("analyze()", x.analyze(), SdfScheduler.V_OK);
        Checks.due("addActor()", x.addActor(), -1);
        Checks.due("bound(23)", x.bound(23), 2);
    }

    public static void main(String[] args) {
        lastPlaceOfEveryTable();
        refusedWithEveryVerdict();
        takenWithEveryVerdict();
        newActorHasNoChannels();
        besideAFullTableOfChannels();
        Checks.finish();
    }
}
