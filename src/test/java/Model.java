import java.math.BigInteger;
import java.util.ArrayDeque;
import java.util.ArrayList;
import java.util.Arrays;
import java.util.HashSet;
import java.util.List;
import java.util.Set;

/**
 * The document told a second time, for comparison: fractions for the repetitions, lists and queues for the
 * rest. What it works out it works out anew, and it drops all of it at every edit.
 */
final class Model implements Face {
    private static final class Channel {
        int src;
        int dst;
        int prod;
        int cons;
        int init;
        int cap;
    }

    private final int maxActors;
    private final int maxChannels;
    private int actors = 0;
    private final List<Channel> channels = new ArrayList<>();

    private int verdict = SdfScheduler.V_NONE;
    private BigInteger[] reps = null;
    private List<Integer> schedule = null;
    private int[] bounds = null;
    private List<ArrayDeque<Integer>> queues = null;
    private int[] fired = null;
    private int position = 0;
    private int periods = 0;

    Model(int maxActors, int maxChannels) {
        this.maxActors = Math.max(2, Math.min(10, maxActors));
        this.maxChannels = Math.max(1, Math.min(24, maxChannels));
    }

    private void discard() {
        verdict = SdfScheduler.V_NONE;
        reps = null;
        schedule = null;
        bounds = null;
        queues = null;
        fired = null;
    }

    @Override
    public void clear() {
        discard();
        actors = 0;
        channels.clear();
    }

    @Override
    public int addActor() {
        if (actors == maxActors) {
            return -1;
        }
        discard();
        return actors++;
    }

    @Override
    public int addChannel(int src, int dst, int prod, int cons) {
        boolean refused = channels.size() == maxChannels || src < 0 || src >= actors || dst < 0 || dst >= actors
            || prod < 1 || prod > 8 || cons < 1 || cons > 8;
        if (refused) {
            return -1;
        }
        discard();
        Channel c = new Channel();
        c.src = src;
        c.dst = dst;
        c.prod = prod;
        c.cons = cons;
        channels.add(c);
        return channels.size() - 1;
    }

    private Channel channel(int ch) {
        return ch >= 0 && ch < channels.size() ? channels.get(ch) : null;
    }

    @Override
    public boolean setTokens(int ch, int n) {
        Channel c = channel(ch);
        if (c == null || n < 0 || n > 32 || (c.cap != 0 && n > c.cap)) {
            return false;
        }
        discard();
        c.init = n;
        return true;
    }

    @Override
    public boolean setCapacity(int ch, int cap) {
        Channel c = channel(ch);
        if (c == null || cap < 0 || cap > 64 || (cap != 0 && cap < c.init)) {
            return false;
        }
        discard();
        c.cap = cap;
        return true;
    }

    @Override
    public int analyze() {
        discard();
        verdict = judge();
        return verdict;
    }

    private int judge() {
        if (actors == 0) {
            return SdfScheduler.V_EMPTY;
        }
        reps = solve();
        if (reps == null) {
            return SdfScheduler.V_INCONSISTENT;
        }
        BigInteger total = BigInteger.ZERO;
        for (BigInteger q : reps) {
            total = total.add(q);
        }
        if (total.compareTo(BigInteger.valueOf(256)) > 0) {
            return SdfScheduler.V_TOO_LONG;
        }
        simulate();
        if (schedule.size() < total.intValueExact()) {
            return SdfScheduler.V_DEADLOCK;
        }
        if (Arrays.stream(bounds).sum() > 512) {
            return SdfScheduler.V_TOO_BIG;
        }
        resetExecutor();
        return SdfScheduler.V_OK;
    }

    /** Null where there is no solution. */
    private BigInteger[] solve() {
        BigInteger[] q = new BigInteger[actors];
        for (int root = 0; root < actors; root++) {
            if (q[root] == null && !solvePart(root, q)) {
                return null;
            }
        }
        return q;
    }

    /** Fractions, outwards from the root, then cleared of denominators and of common divisors. */
    private boolean solvePart(int root, BigInteger[] q) {
        BigInteger[] num = new BigInteger[actors];
        BigInteger[] den = new BigInteger[actors];
        List<Integer> part = new ArrayList<>(List.of(root));
        num[root] = BigInteger.ONE;
        den[root] = BigInteger.ONE;
        for (int i = 0; i < part.size(); i++) {
            int a = part.get(i);
            for (Channel c : channels) {
                if (c.src == a && !reach(c.dst, num[a], den[a], c.prod, c.cons, num, den, part)) {
                    return false;
                }
                if (c.dst == a && !reach(c.src, num[a], den[a], c.cons, c.prod, num, den, part)) {
                    return false;
                }
            }
        }
        BigInteger all = BigInteger.ONE;
        for (int a : part) {
            all = all.multiply(den[a]);
        }
        BigInteger common = BigInteger.ZERO;
        for (int a : part) {
            q[a] = num[a].multiply(all).divide(den[a]);
            common = common.gcd(q[a]);
        }
        for (int a : part) {
            q[a] = q[a].divide(common);
        }
        return true;
    }

    private static boolean reach(int to, BigInteger num, BigInteger den, int gives, int takes,
            BigInteger[] nums, BigInteger[] dens, List<Integer> part) {
        BigInteger n = num.multiply(BigInteger.valueOf(gives));
        BigInteger d = den.multiply(BigInteger.valueOf(takes));
        if (nums[to] != null) {
            return n.multiply(dens[to]).equals(d.multiply(nums[to]));
        }
        nums[to] = n;
        dens[to] = d;
        part.add(to);
        return true;
    }

    private int[] initialTokens() {
        return channels.stream().mapToInt(c -> c.init).toArray();
    }

    private boolean enabled(int a, int[] t) {
        for (int i = 0; i < t.length; i++) {
            Channel c = channels.get(i);
            boolean starved = c.dst == a && t[i] < c.cons;
            boolean blocked = c.src == a && c.cap != 0 && t[i] + c.prod > c.cap;
            if (starved || blocked) {
                return false;
            }
        }
        return true;
    }

    private int[] after(int a, int[] t) {
        int[] next = t.clone();
        for (int i = 0; i < t.length; i++) {
            Channel c = channels.get(i);
            next[i] += (c.src == a ? c.prod : 0) - (c.dst == a ? c.cons : 0);
        }
        return next;
    }

    private int firstReady(int[] f, int[] t) {
        for (int a = 0; a < actors; a++) {
            if (f[a] < reps[a].intValueExact() && enabled(a, t)) {
                return a;
            }
        }
        return -1;
    }

    private void simulate() {
        int[] t = initialTokens();
        int[] f = new int[actors];
        bounds = t.clone();
        schedule = new ArrayList<>();
        for (int a = firstReady(f, t); a >= 0; a = firstReady(f, t)) {
            schedule.add(a);
            f[a]++;
            t = after(a, t);
            for (int i = 0; i < t.length; i++) {
                bounds[i] = Math.max(bounds[i], t[i]);
            }
        }
    }

    /** How many states a search of all firing orders would meet at the most. */
    long orderStates() {
        long states = 1;
        for (BigInteger q : reps) {
            states = Math.min(states * (q.longValueExact() + 1), 1_000_000_000L);
        }
        return states;
    }

    /** By trying every order: the counts of firings tell the tokens, so they are the whole state. */
    boolean someOrderCompletes() {
        ArrayDeque<int[]> open = new ArrayDeque<>();
        Set<List<Integer>> seen = new HashSet<>();
        open.add(new int[actors]);
        while (!open.isEmpty()) {
            int[] f = open.poll();
            int[] t = initialTokens();
            for (int i = 0; i < t.length; i++) {
                Channel c = channels.get(i);
                t[i] += f[c.src] * c.prod - f[c.dst] * c.cons;
            }
            boolean complete = true;
            for (int a = 0; a < actors; a++) {
                if (f[a] < reps[a].intValueExact()) {
                    complete = false;
                    int[] next = f.clone();
                    next[a]++;
                    List<Integer> key = new ArrayList<>();
                    Arrays.stream(next).forEach(key::add);
                    if (enabled(a, t) && seen.add(key)) {
                        open.add(next);
                    }
                }
            }
            if (complete) {
                return true;
            }
        }
        return false;
    }

    private void resetExecutor() {
        queues = new ArrayList<>();
        for (Channel c : channels) {
            ArrayDeque<Integer> queue = new ArrayDeque<>();
            for (int i = 0; i < c.init; i++) {
                queue.add(0);
            }
            queues.add(queue);
        }
        fired = new int[actors];
        position = 0;
        periods = 0;
    }

    @Override
    public int run(int steps) {
        if (verdict != SdfScheduler.V_OK || steps < 1 || steps > 256) {
            return -1;
        }
        for (int i = 0; i < steps; i++) {
            step(schedule.get(position));
            position = (position + 1) % schedule.size();
            periods += position == 0 ? 1 : 0;
        }
        return periods;
    }

    private void step(int a) {
        int s = 0;
        for (int i = 0; i < channels.size(); i++) {
            for (int k = 0; channels.get(i).dst == a && k < channels.get(i).cons; k++) {
                s += queues.get(i).remove();
            }
        }
        int v = 31 * s + fired[a] + 1;
        fired[a]++;
        for (int i = 0; i < channels.size(); i++) {
            for (int k = 0; channels.get(i).src == a && k < channels.get(i).prod; k++) {
                queues.get(i).add(v);
            }
        }
    }

    @Override
    public int verdict() {
        return verdict;
    }

    @Override
    public long repetitions(int a) {
        return reps != null && a >= 0 && a < actors ? reps[a].longValueExact() : 0L;
    }

    @Override
    public int scheduleLength() {
        return schedule != null ? schedule.size() : 0;
    }

    @Override
    public int scheduleAt(int i) {
        return i >= 0 && i < scheduleLength() ? schedule.get(i) : -1;
    }

    @Override
    public int bound(int ch) {
        return bounds != null && channel(ch) != null ? bounds[ch] : -1;
    }

    @Override
    public int position() {
        return queues != null ? position : -1;
    }

    @Override
    public int tokenCount(int ch) {
        return queues != null && channel(ch) != null ? queues.get(ch).size() : -1;
    }

    @Override
    public int tokenValue(int ch, int pos) {
        if (pos < 0 || pos >= tokenCount(ch)) {
            return 0;
        }
        return new ArrayList<>(queues.get(ch)).get(pos);
    }

    @Override
    public int fired(int a) {
        return fired != null && a >= 0 && a < actors ? fired[a] : -1;
    }
}
