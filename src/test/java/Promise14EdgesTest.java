/** The edges of promise 14, each sentence on its own. */
public final class Promise14EdgesTest {
    /** "when the verdict is V_OK and ch is an existing channel. Otherwise it answers -1", and 0 of a value. */
    private static void everyVerdictAndArgument() {
        int[] counts = {11, 0};
        for (int verdict : States.ALL) {
            SdfScheduler x = States.of(verdict);
            for (int ch = -2; ch <= 30; ch++) {
                boolean shown = verdict == SdfScheduler.V_OK && (ch == 0 || ch == 1);
                String call = "tokenCount(" + ch + ") with verdict " + verdict;
                Checks.due(call, x.tokenCount(ch), shown ? counts[ch] : -1);
                for (int pos = -2; !shown && pos <= 40; pos++) {
                    Checks.due("tokenValue(" + ch + ", " + pos + ")", x.tokenValue(ch, pos), 0);
                }
            }
            for (int ch : States.FAR_OFF) {
                Checks.due("tokenCount(" + ch + ") with verdict " + verdict, x.tokenCount(ch), -1);
                for (int pos : States.FAR_OFF) {
                    Checks.due("tokenValue(" + ch + ", " + pos + ")", x.tokenValue(ch, pos), 0);
                    Checks.due("tokenValue(0, " + pos + ")", x.tokenValue(0, pos), 0);
                }
                Checks.due("tokenValue(" + ch + ", 0)", x.tokenValue(ch, 0), 0);
            }
        }
    }

    /** The last channel and the next, up to a full table: each shows its own tokens. */
    private static void lastChannelAndTheNext() {
        for (int channels = 0; channels <= 24; channels++) {
            SdfScheduler x = Graphs.selfLoops(channels, 0);
            for (int c = 0; c < channels; c++) {
                x.setTokens(c, c % 20 + 1);
            }
            Checks.due("analyze()", x.analyze(), SdfScheduler.V_OK);
            x.run(1);
            for (int c = 0; c < channels; c++) {
                Checks.due("tokenCount(" + c + ")", x.tokenCount(c), c % 20 + 1);
                Checks.due("tokenValue(" + c + ", last)", x.tokenValue(c, c % 20), 1);
                Checks.due("tokenValue(" + c + ", head)", x.tokenValue(c, 0), c % 20 == 0 ? 1 : 0);
            }
            Checks.due("tokenCount of the next", x.tokenCount(channels), -1);
            Checks.due("tokenValue of the next", x.tokenValue(channels, 0), 0);
        }
    }

    /** "0 <= pos < tokenCount(ch)": every value here is above 0, so that a place too far shows. */
    private static void headAndLastPlace() {
        for (int n = 1; n <= 32; n++) {
            SdfScheduler x = Graphs.graph(2, Graphs.ch(0, 1, 1, 1, n));
            x.analyze();
            // So many periods that no initial token is left, and the queue's places have all been used.
            for (int i = 0; i < 600; i++) {
                x.run(2);
            }
            Checks.due("tokenCount(0)", x.tokenCount(0), n);
            for (int pos = 0; pos < n; pos++) {
                Checks.due("tokenValue(0, " + pos + ") of " + n, x.tokenValue(0, pos), 600 - n + 1 + pos);
            }
            for (int pos = n; pos <= 1100; pos++) {
                Checks.due("tokenValue(0, " + pos + ") of " + n, x.tokenValue(0, pos), 0);
                Checks.due("tokenValue(0, " + (n - 1 - pos) + ") of " + n, x.tokenValue(0, n - 1 - pos), 0);
            }
        }
    }

    /** Terms: "channel c holds init(c) tokens, each of value 0", none to 32, whatever was there before. */
    private static void initialTokens() {
        for (int n = 0; n <= 32; n++) {
            SdfScheduler x = Graphs.graph(2, Graphs.ch(0, 1, 1, 1, 32));
            x.analyze();
            x.run(256);
            x.setTokens(0, n);
            Checks.due("analyze()", x.analyze(), SdfScheduler.V_OK);
            Checks.due("tokenCount(0)", x.tokenCount(0), n);
            for (int pos = -1; pos <= 40; pos++) {
                Checks.due("tokenValue(0, " + pos + ")", x.tokenValue(0, pos), 0);
            }
        }
    }

    /** Terms: "The sum uses int wrap-around", above the greatest int and below the least. */
    private static void sumsWrapAround() {
        SdfScheduler x = Graphs.graph(2,
            Graphs.ch(0, 1, 8, 8), Graphs.ch(0, 1, 5, 5), Graphs.ch(1, 0, 3, 3, 3), Graphs.ch(1, 1, 1, 1, 1));
        Checks.due("analyze()", x.analyze(), SdfScheduler.V_OK);
        Checks.due("schedule", Checks.schedule(x), "0 1");
        int zero = 0;
        int one = 0;
        boolean above = false;
        boolean below = false;
        for (int i = 0; i < 500; i++) {
            zero = 31 * (int) (3L * one) + i + 1;
            long sum = 13L * zero + one;
            above |= sum > Integer.MAX_VALUE;
            below |= sum < Integer.MIN_VALUE;
            one = 31 * (int) sum + i + 1;
            x.run(1);
            Checks.due("tokenValue(0, 7)", x.tokenValue(0, 7), zero);
            Checks.due("tokenValue(1, 4)", x.tokenValue(1, 4), zero);
            x.run(1);
            Checks.due("tokenValue(2, 2)", x.tokenValue(2, 2), one);
            Checks.due("tokenValue(3, 0)", x.tokenValue(3, 0), one);
        }
        Checks.due("a sum above the greatest int", above, true);
        Checks.due("a sum below the least int", below, true);
    }

    /** Terms: "v = 31*s + fired(a) + 1, with int wrap-around": 31*s alone goes beyond both ends, s does not. */
    private static void valuesWrapAround() {
        SdfScheduler x = Graphs.graph(1, Graphs.ch(0, 0, 1, 1, 1));
        x.analyze();
        int value = 0;
        boolean above = false;
        boolean below = false;
        for (int i = 0; i < 500; i++) {
            long exact = 31L * value + i + 1;
            above |= exact > Integer.MAX_VALUE;
            below |= exact < Integer.MIN_VALUE;
            value = (int) exact;
            x.run(1);
            Checks.due("tokenValue(0, 0) after " + (i + 1) + " firings", x.tokenValue(0, 0), value);
        }
        Checks.due("a value above the greatest int", above, true);
        Checks.due("a value below the least int", below, true);
    }

    /** Terms: fired(a) in v is the whole count, not a narrower one. */
    private static void valuesOfManyFirings() {
        SdfScheduler x = Graphs.graph(1, Graphs.ch(0, 0, 1, 1, 1));
        x.analyze();
        int value = 0;
        int fired = 0;
        for (int i = 0; i < 1 << 16; i++) {
            for (int end = fired + 251; fired < end; fired++) {
                value = 31 * value + fired + 1;
            }
            x.run(251);
            Checks.due("tokenValue(0, 0) after " + fired + " firings", x.tokenValue(0, 0), value);
        }
        Checks.due("fired(0)", x.fired(0), 251 << 16);
    }

    /** "Tokens leave at the head and arrive at the tail": long queues, many times round. */
    private static void longQueues() {
        queues(4, Graphs.ch(0, 1, 8, 1, 24), Graphs.ch(1, 2, 8, 1, 0), Graphs.ch(2, 3, 6, 6, 32));
        queues(4, Graphs.ch(0, 1, 8, 1, 0), Graphs.ch(1, 2, 8, 1, 5), Graphs.ch(2, 3, 6, 4, 0));
        int[][] fullTable = new int[24][];
        for (int c = 0; c < 24; c++) {
            fullTable[c] = Graphs.ch(c % 2, 1 - c % 2, 1, 1, c % 20 + 1);
        }
        queues(2, fullTable);
    }

    private static void queues(int actors, int[]... channels) {
        SdfScheduler x = Graphs.graph(actors, channels);
        Model model = new Model(10, 24);
        for (int a = 0; a < actors; a++) {
            model.addActor();
        }
        for (int c = 0; c < channels.length; c++) {
            int[] ch = channels[c];
            model.addChannel(ch[0], ch[1], ch[2], ch[3]);
            model.setTokens(c, ch[4]);
        }
        model.analyze();
        Checks.due("analyze()", x.analyze(), SdfScheduler.V_OK);
        for (int i = 0; i < 400; i++) {
            Checks.due("run()", x.run(1 + i % 23), model.run(1 + i % 23));
            Checks.due("queues", Checks.shown(x), Face.shown(model));
        }
    }

    /** "Both calls change nothing." */
    private static void changesNothing() {
        for (int verdict : States.ALL) {
            States.asked("tokenCount() and tokenValue()", verdict, x -> {
                for (int n : States.FAR_OFF) {
                    x.tokenCount(n);
                    x.tokenValue(n, 0);
                    x.tokenValue(0, n);
                    x.tokenValue(n, n);
                }
                for (int n = 0; n <= 24; n++) {
                    x.tokenCount(n);
                    x.tokenValue(n, n);
                    x.tokenValue(0, n);
                }
            });
        }
    }

    public static void main(String[] args) {
        everyVerdictAndArgument();
        lastChannelAndTheNext();
        headAndLastPlace();
        initialTokens();
        sumsWrapAround();
        valuesWrapAround();
        valuesOfManyFirings();
        longQueues();
        changesNothing();
        Checks.finish();
    }
}
