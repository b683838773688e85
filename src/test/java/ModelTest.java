/** Long runs of calls on the program and on the model, every answer and every getter compared. */
public final class ModelTest {
    /** Its own row of numbers from a fixed start, so that every run of the test is the same. */
    private long state = 20261115L;
    private final int[] seen = new int[7];
    private int searched = 0;

    private int below(int limit) {
        state = state * 6364136223846793005L + 1442695040888963407L;
        return (int) ((state >>> 33) % limit);
    }

    private int wrongNumber() {
        int[] numbers = {-1, 0, 9, 10, 24, 33, 65, 257, Integer.MIN_VALUE, Integer.MAX_VALUE};
        return numbers[below(numbers.length)];
    }

    /** Now and then a wrong one; else from least to most. */
    private int number(int least, int most) {
        return below(25) == 0 ? wrongNumber() : least + below(most - least + 1);
    }

    private void same(String call, Face program, Face model, long got, long want) {
        Checks.due(call, got, want);
        Checks.due("after " + call, Face.shown(program), Face.shown(model));
    }

    private static long told(boolean answer) {
        return answer ? 1L : 0L;
    }

    private void addChannel(Face program, Face model, int src, int dst, int prod, int cons) {
        String call = "addChannel(" + src + ", " + dst + ", " + prod + ", " + cons + ")";
        same(call, program, model, program.addChannel(src, dst, prod, cons), model.addChannel(src, dst, prod, cons));
    }

    private void setTokens(Face program, Face model, int ch, int n) {
        same("setTokens(" + ch + ", " + n + ")", program, model,
            told(program.setTokens(ch, n)), told(model.setTokens(ch, n)));
    }

    private void setCapacity(Face program, Face model, int ch, int cap) {
        same("setCapacity(" + ch + ", " + cap + ")", program, model,
            told(program.setCapacity(ch, cap)), told(model.setCapacity(ch, cap)));
    }

    private void analyze(Face program, Model model) {
        same("analyze()", program, model, program.analyze(), model.analyze());
        int verdict = model.verdict();
        seen[verdict]++;
        boolean ordered = verdict == SdfScheduler.V_OK || verdict == SdfScheduler.V_DEADLOCK
            || verdict == SdfScheduler.V_TOO_BIG;
        if (ordered && model.orderStates() <= 3000) {
            searched++;
            Checks.due("deadlock", program.verdict() == SdfScheduler.V_DEADLOCK, !model.someOrderCompletes());
        }
    }

    private void run(Face program, Face model, int steps) {
        same("run(" + steps + ")", program, model, program.run(steps), model.run(steps));
    }

    private static int gcd(int a, int b) {
        return b == 0 ? a : gcd(b, a % b);
    }

    /** Rates that balance the counts wished for, where such rates are small enough; else any. */
    private void balancedChannel(Face program, Face model, int actors, int[] wish) {
        int src = number(0, actors - 1);
        int dst = number(0, actors - 1);
        boolean known = src >= 0 && src < actors && dst >= 0 && dst < actors;
        int prod = known ? wish[dst] / gcd(wish[src], wish[dst]) : number(1, 8);
        int cons = known ? wish[src] / gcd(wish[src], wish[dst]) : number(1, 8);
        int times = 1 + below(Math.max(1, 8 / Math.max(prod, cons)));
        addChannel(program, model, src, dst, prod * times, cons * times);
    }

    /** One part of all actors; its rates balance whatever they are. */
    private int tree(Face program, Face model, int actors) {
        int rate = 1 + below(8);
        for (int a = 1; a < actors; a++) {
            int other = below(a);
            boolean down = below(2) == 0;
            addChannel(program, model, down ? other : a, down ? a : other, 1 + below(rate), 1 + below(rate));
        }
        return Math.max(0, actors - 1);
    }

    private int balancedChannels(Face program, Face model, int actors, int[] wish) {
        int channels = actors == 0 ? 0 : below(4) == 0 ? 24 : below(actors + 3);
        for (int c = 0; c < channels; c++) {
            balancedChannel(program, model, actors, wish);
        }
        return channels;
    }

    private void edit(Face program, Face model, int actors, int channels, int[] wish) {
        int what = below(20);
        if (what < 7) {
            balancedChannel(program, model, actors, wish);
        } else if (what < 13) {
            setTokens(program, model, number(0, channels), number(0, 32));
        } else if (what < 17) {
            int cap = below(3) == 0 ? 0 : number(1, 64);
            setCapacity(program, model, number(0, channels), cap);
        } else if (what < 18) {
            addChannel(program, model, number(0, actors), number(0, actors), number(1, 8), number(1, 8));
        } else if (what < 19) {
            same("addActor()", program, model, program.addActor(), model.addActor());
        }
    }

    private void oneGraph(Face program, Model model) {
        int[] counts = {1, 1, 2, 2, 3, 4, 6, 8, 12, 16, 24, 48};
        int kinds = 1 + below(counts.length);
        int[] wish = new int[10];
        for (int a = 0; a < 10; a++) {
            wish[a] = counts[below(kinds)];
        }
        int actors = below(11);
        for (int a = 0; a < actors; a++) {
            same("addActor()", program, model, program.addActor(), model.addActor());
        }
        int channels = below(3) == 0
            ? tree(program, model, actors) : balancedChannels(program, model, actors, wish);
        int fewest = 8 * below(4);
        for (int c = 0; c < channels; c++) {
            setTokens(program, model, c, fewest + below(33 - fewest));
            if (below(4) == 0) {
                setCapacity(program, model, c, 24 + below(41));
            }
        }
        for (int round = 0; round < 4; round++) {
            analyze(program, model);
            for (int i = 0; i < 4; i++) {
                int steps = below(4) == 0 ? number(1, 256) : number(1, 9);
                run(program, model, steps);
            }
            for (int i = below(4); i > 0; i--) {
                edit(program, model, Math.max(1, actors), channels, wish);
            }
        }
    }

    private void manyGraphs() {
        for (int object = 0; object < 300; object++) {
            int maxActors = below(3) == 0 ? number(-2, 12) : 10;
            int maxChannels = below(3) == 0 ? number(-2, 26) : 24;
            Face program = Face.of(new SdfScheduler(maxActors, maxChannels));
            Model model = new Model(maxActors, maxChannels);
            for (int graph = 0; graph < 4; graph++) {
                oneGraph(program, model);
                program.clear();
                model.clear();
                same("clear()", program, model, 0, 0);
            }
        }
    }

    /** Bounds that sum to 512 on the dot, 416 of them on one channel, until its queue has gone round. */
    private void fullStore() {
        Face program = Face.of(new SdfScheduler(10, 24));
        Model model = new Model(10, 24);
        for (int a = 0; a < 4; a++) {
            same("addActor()", program, model, program.addActor(), model.addActor());
        }
        addChannel(program, model, 0, 1, 8, 1);
        addChannel(program, model, 1, 2, 8, 1);
        addChannel(program, model, 2, 3, 6, 6);
        setTokens(program, model, 0, 24);
        setTokens(program, model, 2, 32);
        analyze(program, model);
        Checks.due("verdict()", program.verdict(), SdfScheduler.V_OK);
        Checks.due("bounds", program.bound(0) + program.bound(1) + program.bound(2), 512);
        for (int i = 0; i < 300; i++) {
            run(program, model, 1 + below(30));
        }
        setTokens(program, model, 0, 25);
        analyze(program, model);
        Checks.due("verdict()", program.verdict(), SdfScheduler.V_TOO_BIG);
    }

    /** A test that met too little would pass for nothing. */
    private void enoughWasSeen() {
        for (int verdict = 1; verdict < seen.length; verdict++) {
            System.out.println("verdict " + verdict + " seen " + seen[verdict] + " times");
            Checks.due("verdict " + verdict + " seen often enough", seen[verdict] >= 50, true);
        }
        System.out.println("all orders tried " + searched + " times");
        Checks.due("all orders tried often enough", searched >= 200, true);
    }

    public static void main(String[] args) {
        ModelTest test = new ModelTest();
        test.fullStore();
        test.manyGraphs();
        test.enoughWasSeen();
        Checks.finish();
    }
}
