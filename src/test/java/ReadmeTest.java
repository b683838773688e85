/** The example of README.md. */
public final class ReadmeTest {
    public static void main(String[] args) {
        SdfScheduler x = new SdfScheduler(4, 6);
        int a = x.addActor();
        int b = x.addActor();
        int ch = x.addChannel(a, b, 2, 3);
        Checks.due("setTokens", x.setTokens(ch, 1), true);
        Checks.due("setCapacity", x.setCapacity(ch, 6), true);
        Checks.due("analyze", x.analyze(), SdfScheduler.V_OK);
        Checks.due("repetitions", x.repetitions(a), 3);
        Checks.due("scheduleLength", x.scheduleLength(), 5);
        Checks.due("schedule", Checks.schedule(x), "0 0 1 0 1");
        Checks.due("bound", x.bound(ch), 5);
        Checks.due("run", x.run(7), 1);
        Checks.due("position", x.position(), 2);
        Checks.due("tokenCount", x.tokenCount(ch), 5);
        Checks.due("fired", x.fired(b), 2);
        Checks.finish();
    }
}
