/**
 * Searches a graph of changes for the one that broke a target.
 *
 * A set of changes is a long throughout, whose bit i stands for change i: the 40 changes that an
 * object may hold fit, and what a change has is known once and for all when it is made.
 */
public final class CulpritSearch {

    public static final int NONE = -1;

    private static final int MOST_CHANGES = 40;
    private static final int MOST_TARGETS = 4;
    private static final int MOST_ANSWERS = 15;
    private static final int MOST_Q = 9;
    private static final int LEAST_SURE = 51;
    private static final int MOST_SURE = 100;

    private static final int GOES_ON = 0;
    private static final int FOUND = 1;
    private static final int STUCK = 2;
    private static final int TIRED = 3;

    private static final int PASSED = 0;
    private static final int FAILED = 1;
    private static final int UNBUILDABLE = 2;

    private static final int COUNT_ANSWERS = 0;
    private static final int COUNT_SKIPPED = 1;
    private static final int COUNT_BUILT = 2;
    private static final int COUNT_BAD = 3;

    private static final int REFUSED = -1;
    private static final int BAD_IS_GOOD = -2;

    private final Graph graph;
    private final Target[] targets;
    private int targetCount;

    public CulpritSearch() {
        graph = new Graph();
        targets = new Target[MOST_TARGETS];
        targetCount = 0;
    }

    public int change(int a, int b, int c) {
        if (!graph.mayBeParent(a) || !graph.mayBeParent(b) || !graph.mayBeParent(c)) {
            return NONE;
        }
        return graph.add(only(a) | only(b) | only(c));
    }

    public boolean has(int change, int other) {
        return graph.holds(other) && contains(graph.reach(change), other);
    }

    public int target() {
        if (targetCount < 0 || targetCount >= targets.length) {
            return NONE;
        }
        int number = targetCount;
        targets[number] = new Target(graph);
        targetCount++;
        return number;
    }

    public int good(int target, int change) {
        Target known = targetAt(target);
        if (known == null || !graph.holds(change) || known.isSearched()) {
            return REFUSED;
        }
        return known.markGood(change) ? 1 : 0;
    }

    public int begin(int target, int bad, int p, int q, int sure) {
        Target known = targetAt(target);
        if (known == null || !graph.holds(bad) || !isFlake(p, q) || !isSure(sure)) {
            return REFUSED;
        }
        if (known.isCleared(bad)) {
            return BAD_IS_GOOD;
        }
        return known.start(bad, p, q, sure);
    }

    public boolean stop(int target) {
        Target searched = searchAt(target);
        if (searched == null) {
            return false;
        }
        searched.giveUp();
        return true;
    }

    public int state(int target) {
        Target searched = searchAt(target);
        return searched == null ? NONE : searched.standing();
    }

    public int next(int target) {
        Target searched = searchAt(target);
        return searched == null ? NONE : searched.asked();
    }

    public int answer(int target, int outcome) {
        Target searched = searchAt(target);
        if (searched == null || outcome < PASSED || outcome > UNBUILDABLE) {
            return NONE;
        }
        int asked = searched.asked();
        if (asked == NONE) {
            return NONE;
        }
        if (outcome == UNBUILDABLE) {
            searched.skip(asked);
        } else {
            searched.learn(asked, outcome);
        }
        return searched.standing();
    }

    public long weight(int target, int change) {
        Target searched = searchAt(target);
        return searched == null ? 0 : searched.weightOf(change);
    }

    public long part(int target, int change) {
        Target searched = searchAt(target);
        return searched == null ? 0 : searched.weightWithin(graph.reach(change));
    }

    public long total(int target) {
        Target searched = searchAt(target);
        return searched == null ? 0 : searched.weightOfAll();
    }

    public int found(int target) {
        Target searched = searchAt(target);
        return searched == null ? NONE : searched.culprit();
    }

    public int told(int target, int k) {
        Target searched = searchAt(target);
        return searched == null ? NONE : searched.ranked(k);
    }

    public int way(int target, int k) {
        Target searched = searchAt(target);
        return searched == null ? NONE : searched.onWay(k);
    }

    public int counted(int target, int what) {
        if (what == COUNT_BUILT) {
            return graph.builtCount();
        }
        Target known = targetAt(target);
        if (known == null) {
            return NONE;
        }
        if (what == COUNT_SKIPPED) {
            return known.skips;
        }
        if (!known.isSearched()) {
            return NONE;
        }
        if (what == COUNT_ANSWERS) {
            return known.answers;
        }
        return what == COUNT_BAD ? known.bad : NONE;
    }

    private Target targetAt(int number) {
        if (number < 0 || number >= targetCount || number >= targets.length) {
            return null;
        }
        return targets[number];
    }

    private Target searchAt(int number) {
        Target known = targetAt(number);
        return known != null && known.isSearched() ? known : null;
    }

    private static boolean isFlake(int p, int q) {
        return q >= 1 && q <= MOST_Q && p >= 0 && p < q;
    }

    private static boolean isSure(int sure) {
        return sure >= LEAST_SURE && sure <= MOST_SURE;
    }

    private static boolean isNumber(int change) {
        return change >= 0 && change < MOST_CHANGES;
    }

    private static long only(int change) {
        return isNumber(change) ? 1L << change : 0L;
    }

    private static boolean contains(long set, int change) {
        return isNumber(change) && (set >>> change & 1L) != 0L;
    }

    /** The changes, and what all targets share of them: which are built and which are skipped. */
    private static final class Graph {
        private final long[] parents;
        private final long[] reaches;
        private int size;
        private long built;
        private long skipped;

        Graph() {
            parents = new long[MOST_CHANGES];
            reaches = new long[MOST_CHANGES];
            size = 0;
            built = 0L;
            skipped = 0L;
        }

        boolean holds(int number) {
            return isNumber(number) && number < size;
        }

        boolean mayBeParent(int number) {
            return number == NONE || holds(number);
        }

        int add(long parentSet) {
            if (!isNumber(size)) {
                return NONE;
            }
            int number = size;
            long reached = only(number);
            for (int i = 0; i < number; i++) {
                if (contains(parentSet, i)) {
                    reached |= reaches[i];
                }
            }
            parents[number] = parentSet;
            reaches[number] = reached;
            size++;
            return number;
        }

        /** All that a change has, itself too; nothing if there is no such change. */
        long reach(int number) {
            return holds(number) ? reaches[number] : 0L;
        }

        /** The parent with the least number that has the culprit. */
        int stepToward(int number, int culprit) {
            if (!holds(number)) {
                return NONE;
            }
            for (int i = 0; i < number; i++) {
                if (contains(parents[number], i) && contains(reaches[i], culprit)) {
                    return i;
                }
            }
            return NONE;
        }

        void markBuilt(int number) {
            built |= only(number);
        }

        void markSkipped(int number) {
            skipped |= only(number);
        }

        boolean isBuilt(int number) {
            return contains(built, number);
        }

        boolean isSkipped(int number) {
            return contains(skipped, number);
        }

        int builtCount() {
            return Long.bitCount(built);
        }
    }

    /**
     * A target and its search. Weights are kept, not the answers: no weight exceeds 9 to the 15th,
     * so that even a hundred times the total of 40 stays within a long.
     */
    private static final class Target {
        private final Graph graph;
        private final long[] weights;
        private long goodOnes;
        // A good change clears all that it has of suspicion.
        private long cleared;
        private boolean searched;
        private int bad;
        private int p;
        private int q;
        private int sure;
        private int answers;
        private int skips;

        Target(Graph shared) {
            graph = shared;
            weights = new long[MOST_CHANGES];
            goodOnes = 0L;
            cleared = 0L;
            searched = false;
            bad = NONE;
            p = 0;
            q = 1;
            sure = MOST_SURE;
            answers = 0;
            skips = 0;
        }

        boolean isSearched() {
            return searched;
        }

        boolean isCleared(int number) {
            return contains(cleared, number);
        }

        /** Whether it wasn't known before. */
        boolean markGood(int number) {
            if (contains(goodOnes, number)) {
                return false;
            }
            goodOnes |= only(number);
            cleared |= graph.reach(number);
            return true;
        }

        /** How many changes may be the culprit. */
        int start(int badOne, int passes, int ofTimes, int hundredths) {
            searched = true;
            bad = badOne;
            p = passes;
            q = ofTimes;
            sure = hundredths;
            answers = 0;
            long suspects = graph.reach(badOne) & ~cleared;
            for (int i = 0; i < weights.length; i++) {
                weights[i] = contains(suspects, i) ? 1L : 0L;
            }
            return Long.bitCount(suspects);
        }

        void giveUp() {
            searched = false;
        }

        long weightOf(int number) {
            return number >= 0 && number < weights.length ? weights[number] : 0L;
        }

        long weightWithin(long set) {
            long sum = 0L;
            for (int i = 0; i < weights.length; i++) {
                if (contains(set, i)) {
                    sum += weights[i];
                }
            }
            return sum;
        }

        long weightOfAll() {
            long sum = 0L;
            for (int i = 0; i < weights.length; i++) {
                sum += weights[i];
            }
            return sum;
        }

        /** Sure is above one half, so at most one change can be found. */
        int culprit() {
            long needed = sure * weightOfAll();
            for (int i = 0; i < weights.length; i++) {
                if (weights[i] > 0L && weights[i] * 100L >= needed) {
                    return i;
                }
            }
            return NONE;
        }

        int standing() {
            if (culprit() != NONE) {
                return FOUND;
            }
            if (answers >= MOST_ANSWERS) {
                return TIRED;
            }
            return mostEven() == NONE ? STUCK : GOES_ON;
        }

        int asked() {
            return standing() == GOES_ON ? mostEven() : NONE;
        }

        /** Changes that the bad one doesn't have, or that are new since the start, may be asked too. */
        private int mostEven() {
            long all = weightOfAll();
            int best = NONE;
            long bestGap = 0L;
            for (int i = 0; i < graph.size; i++) {
                long within = graph.isSkipped(i) ? 0L : weightWithin(graph.reach(i));
                if (within <= 0L || within >= all) {
                    continue;
                }
                long gap = Math.abs(within - (all - within));
                boolean cheaper = gap == bestGap && graph.isBuilt(i) && !graph.isBuilt(best);
                if (best == NONE || gap < bestGap || cheaper) {
                    best = i;
                    bestGap = gap;
                }
            }
            return best;
        }

        void skip(int number) {
            graph.markSkipped(number);
            skips++;
        }

        void learn(int number, int outcome) {
            graph.markBuilt(number);
            answers++;
            long reached = graph.reach(number);
            for (int i = 0; i < weights.length; i++) {
                weights[i] *= likelihood(outcome, contains(reached, i));
            }
        }

        private long likelihood(int outcome, boolean broken) {
            if (outcome == FAILED) {
                return broken ? q - p : 0L;
            }
            return broken ? p : q;
        }

        int ranked(int k) {
            for (int i = 0; i < weights.length; i++) {
                if (weights[i] > 0L && rankOf(i) == k) {
                    return i;
                }
            }
            return NONE;
        }

        /** How many changes are told before this one. */
        private int rankOf(int number) {
            long own = weightOf(number);
            int before = 0;
            for (int i = 0; i < weights.length; i++) {
                if (weights[i] > own || (weights[i] == own && i < number)) {
                    before++;
                }
            }
            return before;
        }

        int onWay(int k) {
            int culprit = culprit();
            if (culprit == NONE || k < 0 || k >= MOST_CHANGES) {
                return NONE;
            }
            int at = bad;
            for (int i = 0; i < k && at != NONE; i++) {
                at = graph.stepToward(at, culprit);
            }
            return at;
        }
    }
}
