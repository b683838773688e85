/** A synchronous dataflow graph: its verdict, its periodic schedule, and an executor that runs it. */
public final class SdfScheduler {
    public static final int V_NONE = 0;
    public static final int V_OK = 1;
    public static final int V_EMPTY = 2;
    public static final int V_INCONSISTENT = 3;
    public static final int V_TOO_LONG = 4;
    public static final int V_DEADLOCK = 5;
    public static final int V_TOO_BIG = 6;
    public static final int MAX_RATE = 8;
    public static final int MAX_INIT = 32;
    public static final int MAX_CAPACITY = 64;
    public static final int MAX_PERIOD = 256;
    public static final int MAX_STORE = 512;
    public static final int MAX_STEPS = 256;

    private static final int LEAST_ACTORS = 2;
    private static final int MOST_ACTORS = 10;
    private static final int LEAST_CHANNELS = 1;
    private static final int MOST_CHANNELS = 24;

    // Under V_OK no channel ever holds more than MAX_STORE tokens, so each gets a ring of that many
    // cells; MAX_STORE is a power of two, so a mask keeps every place inside its ring.
    private static final int RING_MASK = MAX_STORE - 1;
    private static final int STORE_CELLS = MOST_CHANNELS * MAX_STORE;

    private final int actorLimit;
    private final int channelLimit;

    private int actors = 0;
    private int channels = 0;
    private final int[] src = new int[MOST_CHANNELS];
    private final int[] dst = new int[MOST_CHANNELS];
    private final int[] prod = new int[MOST_CHANNELS];
    private final int[] cons = new int[MOST_CHANNELS];
    private final int[] init = new int[MOST_CHANNELS];
    private final int[] capacity = new int[MOST_CHANNELS];

    // The verdict says which of the results below may be shown; setting it to V_NONE discards them all.
    private int currentVerdict = V_NONE;
    private final long[] reps = new long[MOST_ACTORS];
    private final int[] part = new int[MOST_ACTORS];
    private final int[] schedule = new int[MAX_PERIOD];
    private int entries = 0;
    private final int[] peak = new int[MOST_CHANNELS];
    private final int[] planTokens = new int[MOST_CHANNELS];
    private final int[] planFirings = new int[MOST_ACTORS];

    private final int[] store = new int[STORE_CELLS];
    private final int[] head = new int[MOST_CHANNELS];
    private final int[] held = new int[MOST_CHANNELS];
    private final int[] firings = new int[MOST_ACTORS];
    private int place = 0;
    private int periods = 0;

    public SdfScheduler(int maxActors, int maxChannels) {
        actorLimit = clamp(maxActors, LEAST_ACTORS, MOST_ACTORS);
        channelLimit = clamp(maxChannels, LEAST_CHANNELS, MOST_CHANNELS);
    }

    public void clear() {
        actors = 0;
        channels = 0;
        currentVerdict = V_NONE;
    }

    public int addActor() {
        if (actors >= actorLimit) {
            return -1;
        }
        int number = actors;
        actors = number + 1;
        currentVerdict = V_NONE;
        return number;
    }

    public int addChannel(int src, int dst, int prod, int cons) {
        if (channels >= channelLimit || !isActor(src) || !isActor(dst) || !isRate(prod) || !isRate(cons)) {
            return -1;
        }
        int number = channels;
        this.src[number] = src;
        this.dst[number] = dst;
        this.prod[number] = prod;
        this.cons[number] = cons;
        init[number] = 0;
        capacity[number] = 0;
        channels = number + 1;
        currentVerdict = V_NONE;
        return number;
    }

    public boolean setTokens(int ch, int n) {
        if (!isChannel(ch) || n < 0 || n > MAX_INIT) {
            return false;
        }
        if (capacity[ch] != 0 && n > capacity[ch]) {
            return false;
        }
        init[ch] = n;
        currentVerdict = V_NONE;
        return true;
    }

    public boolean setCapacity(int ch, int cap) {
        if (!isChannel(ch) || cap < 0 || cap > MAX_CAPACITY) {
            return false;
        }
        if (cap != 0 && cap < init[ch]) {
            return false;
        }
        capacity[ch] = cap;
        currentVerdict = V_NONE;
        return true;
    }

    public int analyze() {
        findRepetitions();
        currentVerdict = judgeRepetitions();
        if (currentVerdict == V_OK) {
            buildSchedule();
            currentVerdict = judgeSchedule();
        }
        if (currentVerdict == V_OK) {
            resetExecutor();
        }
        return currentVerdict;
    }

    public int verdict() {
        return currentVerdict;
    }

    public long repetitions(int a) {
        boolean known = currentVerdict == V_TOO_LONG || hasSchedule();
        return known && isActor(a) ? reps[a] : 0L;
    }

    public int scheduleLength() {
        return hasSchedule() ? entries : 0;
    }

    public int scheduleAt(int i) {
        return i >= 0 && i < scheduleLength() ? schedule[i] : -1;
    }

    public int bound(int ch) {
        return hasSchedule() && isChannel(ch) ? peak[ch] : -1;
    }

    public int run(int steps) {
        if (currentVerdict != V_OK || steps < 1 || steps > MAX_STEPS) {
            return -1;
        }
        for (int i = 0; i < steps; i++) {
            step();
        }
        return periods;
    }

    public int position() {
        return currentVerdict == V_OK ? place : -1;
    }

    public int tokenCount(int ch) {
        return currentVerdict == V_OK && isChannel(ch) ? held[ch] : -1;
    }

    public int tokenValue(int ch, int pos) {
        // tokenCount is -1 where no token may be shown, so no place lies below it there.
        return pos >= 0 && pos < tokenCount(ch) ? store[cell(ch, pos)] : 0;
    }

    public int fired(int a) {
        return currentVerdict == V_OK && isActor(a) ? firings[a] : -1;
    }

    private static int clamp(int value, int least, int most) {
        if (value < least) {
            return least;
        }
        return value > most ? most : value;
    }

    private static boolean isRate(int rate) {
        return rate >= 1 && rate <= MAX_RATE;
    }

    private boolean isActor(int a) {
        return a >= 0 && a < actors;
    }

    private boolean isChannel(int ch) {
        return ch >= 0 && ch < channels;
    }

    private boolean hasSchedule() {
        return currentVerdict == V_OK || currentVerdict == V_DEADLOCK || currentVerdict == V_TOO_BIG;
    }

    private void findRepetitions() {
        for (int a = 0; a < actors; a++) {
            reps[a] = 0L;
        }
        for (int root = 0; root < actors; root++) {
            if (reps[root] == 0L) {
                solvePart(root);
            }
        }
    }

    /** Along a spanning tree of root's part; whether the other channels agree is isBalanced's to say. */
    private void solvePart(int root) {
        reps[root] = 1L;
        part[root] = root;
        // A pass reaches one more actor at least, unless the part is whole: so this many passes do.
        for (int pass = 1; pass < actors; pass++) {
            for (int c = 0; c < channels; c++) {
                boolean srcReached = reps[src[c]] != 0L;
                boolean dstReached = reps[dst[c]] != 0L;
                if (srcReached && !dstReached) {
                    joinPart(root, src[c], dst[c], prod[c], cons[c]);
                } else if (dstReached && !srcReached) {
                    joinPart(root, dst[c], src[c], cons[c], prod[c]);
                }
            }
        }
    }

    /**
     * Gives actor fresh the count that balances known's, scaling root's part by no more than that needs.
     * So the part's counts keep 1 as their common divisor, which makes them the least ones, and none
     * comes above MAX_RATE to the power of 9: the products here are far from a long's end.
     */
    private void joinPart(int root, int known, int fresh, int knownRate, int freshRate) {
        long amount = reps[known] * knownRate;
        int scale = leastScale(amount, freshRate);
        for (int a = 0; a < actors; a++) {
            if (reps[a] != 0L && part[a] == root) {
                reps[a] = reps[a] * scale;
            }
        }
        // No rate is 0: addChannel lets none below 1 in.
        reps[fresh] = amount * scale / freshRate;
        part[fresh] = root;
    }

    /** The least factor that makes amount a multiple of rate: rate itself at the latest. */
    private static int leastScale(long amount, int rate) {
        for (int scale = 1; scale < rate; scale++) {
            if (amount * scale % rate == 0L) {
                return scale;
            }
        }
        return rate;
    }

    private boolean isBalanced() {
        for (int c = 0; c < channels; c++) {
            if (reps[src[c]] * prod[c] != reps[dst[c]] * cons[c]) {
                return false;
            }
        }
        return true;
    }

    private long totalRepetitions() {
        long total = 0L;
        for (int a = 0; a < actors; a++) {
            total += reps[a];
        }
        return total;
    }

    /** V_OK here means only that nothing speaks against building the schedule. */
    private int judgeRepetitions() {
        if (actors == 0) {
            return V_EMPTY;
        }
        if (!isBalanced()) {
            return V_INCONSISTENT;
        }
        return totalRepetitions() > MAX_PERIOD ? V_TOO_LONG : V_OK;
    }

    private void buildSchedule() {
        entries = 0;
        for (int a = 0; a < actors; a++) {
            planFirings[a] = 0;
        }
        for (int c = 0; c < channels; c++) {
            planTokens[c] = init[c];
            peak[c] = init[c];
        }
        // The repetitions sum to MAX_PERIOD at the most, so no schedule is cut short here.
        for (int i = 0; i < MAX_PERIOD; i++) {
            int a = leastReadyActor();
            if (a < 0) {
                break;
            }
            schedule[i] = a;
            entries = i + 1;
            planFiring(a);
        }
    }

    private int leastReadyActor() {
        for (int a = 0; a < actors; a++) {
            if (planFirings[a] < reps[a] && isEnabled(a)) {
                return a;
            }
        }
        return -1;
    }

    private boolean isEnabled(int a) {
        for (int c = 0; c < channels; c++) {
            if (dst[c] == a && planTokens[c] < cons[c]) {
                return false;
            }
            if (src[c] == a && capacity[c] != 0 && planTokens[c] + prod[c] > capacity[c]) {
                return false;
            }
        }
        return true;
    }

    private void planFiring(int a) {
        planFirings[a]++;
        for (int c = 0; c < channels; c++) {
            // Both ends before the peak is taken: a self-loop's count in mid-firing is no state.
            if (dst[c] == a) {
                planTokens[c] -= cons[c];
            }
            if (src[c] == a) {
                planTokens[c] += prod[c];
            }
            if (planTokens[c] > peak[c]) {
                peak[c] = planTokens[c];
            }
        }
    }

    private int judgeSchedule() {
        if (entries < totalRepetitions()) {
            return V_DEADLOCK;
        }
        int total = 0;
        for (int c = 0; c < channels; c++) {
            total += peak[c];
        }
        return total > MAX_STORE ? V_TOO_BIG : V_OK;
    }

    private void resetExecutor() {
        place = 0;
        periods = 0;
        for (int a = 0; a < actors; a++) {
            firings[a] = 0;
        }
        for (int c = 0; c < channels; c++) {
            head[c] = 0;
            held[c] = 0;
            appendTokens(c, init[c], 0);
        }
    }

    private void step() {
        int a = schedule[place];
        int value = 31 * takeInputs(a) + firings[a] + 1;
        firings[a]++;
        for (int c = 0; c < channels; c++) {
            if (src[c] == a) {
                appendTokens(c, prod[c], value);
            }
        }
        place++;
        if (place >= entries) {
            place = 0;
            periods++;
        }
    }

    /** The sum of the values taken. */
    private int takeInputs(int a) {
        int sum = 0;
        for (int c = 0; c < channels; c++) {
            if (dst[c] == a) {
                for (int i = 0; i < cons[c]; i++) {
                    sum += store[cell(c, i)];
                }
                head[c] = (head[c] + cons[c]) & RING_MASK;
                held[c] -= cons[c];
            }
        }
        return sum;
    }

    private void appendTokens(int c, int number, int value) {
        for (int i = 0; i < number; i++) {
            store[cell(c, held[c] + i)] = value;
        }
        held[c] += number;
    }

    private int cell(int c, int pos) {
        return c * MAX_STORE + ((head[c] + pos) & RING_MASK);
    }
}
