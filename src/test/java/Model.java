import java.math.BigInteger;
import java.util.ArrayList;
import java.util.HashSet;
import java.util.List;
import java.util.Set;
import java.util.TreeSet;

/**
 * The document's terms, word for word and without a thought for speed: every weight is made anew
 * from all answers, in numbers of any length. It shares no idea with the program, so that a
 * mistake in one isn't made in the other.
 */
final class Model {
    private static final int NONE = -1;

    private record Answer(int change, boolean passed) {
    }

    private static final class Search {
        int bad;
        int p;
        int q;
        int sure;
        final List<Answer> answers = new ArrayList<>();
    }

    private static final class Goal {
        final Set<Integer> good = new HashSet<>();
        final Set<Integer> skipped = new HashSet<>();
        Search search = null;
    }

    private final List<TreeSet<Integer>> parents = new ArrayList<>();
    // What each change has never changes, so it is looked up once: the runs would take minutes else.
    private final List<Set<Integer>> known = new ArrayList<>();
    private final List<Goal> goals = new ArrayList<>();
    private final Set<Integer> built = new HashSet<>();

    int changes() {
        return parents.size();
    }

    int change(int a, int b, int c) {
        if (parents.size() >= 40) {
            return NONE;
        }
        TreeSet<Integer> set = new TreeSet<>();
        for (int parent : new int[] {a, b, c}) {
            if (parent == NONE) {
                continue;
            }
            if (!isChange(parent)) {
                return NONE;
            }
            set.add(parent);
        }
        parents.add(set);
        known.add(allOf(parents.size() - 1));
        return parents.size() - 1;
    }

    boolean has(int change, int other) {
        return isChange(change) && isChange(other) && known.get(change).contains(other);
    }

    int target() {
        if (goals.size() >= 4) {
            return NONE;
        }
        goals.add(new Goal());
        return goals.size() - 1;
    }

    int good(int target, int change) {
        if (!isGoal(target) || !isChange(change) || search(target) != null) {
            return -1;
        }
        return goals.get(target).good.add(change) ? 1 : 0;
    }

    int begin(int target, int bad, int p, int q, int sure) {
        if (!isGoal(target) || !isChange(bad)) {
            return -1;
        }
        if (q < 1 || q > 9 || p < 0 || p > q - 1 || sure < 51 || sure > 100) {
            return -1;
        }
        for (int good : goals.get(target).good) {
            if (has(good, bad)) {
                return -2;
            }
        }
        Search search = new Search();
        search.bad = bad;
        search.p = p;
        search.q = q;
        search.sure = sure;
        goals.get(target).search = search;
        return ranking(target).size();
    }

    boolean stop(int target) {
        if (search(target) == null) {
            return false;
        }
        goals.get(target).search = null;
        return true;
    }

    int state(int target) {
        Search search = search(target);
        if (search == null) {
            return NONE;
        }
        if (found(target) != NONE) {
            return 1;
        }
        if (search.answers.size() >= 15) {
            return 3;
        }
        return candidate(target) == NONE ? 2 : 0;
    }

    int next(int target) {
        return state(target) == 0 ? candidate(target) : NONE;
    }

    int answer(int target, int outcome) {
        int next = next(target);
        if (next == NONE || outcome < 0 || outcome > 2) {
            return NONE;
        }
        if (outcome == 2) {
            goals.get(target).skipped.add(next);
        } else {
            built.add(next);
            search(target).answers.add(new Answer(next, outcome == 0));
        }
        return state(target);
    }

    long weight(int target, int change) {
        return exact(weigh(target, change));
    }

    long part(int target, int change) {
        return exact(share(target, change));
    }

    long total(int target) {
        return exact(sum(target));
    }

    int found(int target) {
        Search search = search(target);
        if (search == null) {
            return NONE;
        }
        BigInteger needed = sum(target).multiply(BigInteger.valueOf(search.sure));
        for (int i = 0; i < changes(); i++) {
            if (weigh(target, i).multiply(BigInteger.valueOf(100)).compareTo(needed) >= 0) {
                return i;
            }
        }
        return NONE;
    }

    int told(int target, int k) {
        List<Integer> ranking = ranking(target);
        return k >= 0 && k < ranking.size() ? ranking.get(k) : NONE;
    }

    int way(int target, int k) {
        int culprit = found(target);
        if (culprit == NONE) {
            return NONE;
        }
        List<Integer> way = new ArrayList<>();
        int at = search(target).bad;
        way.add(at);
        while (at != culprit) {
            for (int parent : parents.get(at)) {
                if (has(parent, culprit)) {
                    at = parent;
                    break;
                }
            }
            way.add(at);
        }
        return k >= 0 && k < way.size() ? way.get(k) : NONE;
    }

    int counted(int target, int what) {
        if (what == 2) {
            return built.size();
        }
        if (what == 1) {
            return isGoal(target) ? goals.get(target).skipped.size() : NONE;
        }
        Search search = search(target);
        if (search == null || (what != 0 && what != 3)) {
            return NONE;
        }
        return what == 0 ? search.answers.size() : search.bad;
    }

    private boolean isChange(int number) {
        return number >= 0 && number < parents.size();
    }

    private boolean isGoal(int number) {
        return number >= 0 && number < goals.size();
    }

    private Search search(int target) {
        return isGoal(target) ? goals.get(target).search : null;
    }

    private Set<Integer> allOf(int change) {
        Set<Integer> all = new HashSet<>();
        List<Integer> open = new ArrayList<>();
        open.add(change);
        while (!open.isEmpty()) {
            int one = open.remove(open.size() - 1);
            if (all.add(one)) {
                open.addAll(parents.get(one));
            }
        }
        return all;
    }

    private BigInteger weigh(int target, int change) {
        Search search = search(target);
        if (search == null || !isChange(change) || !has(search.bad, change)) {
            return BigInteger.ZERO;
        }
        for (int good : goals.get(target).good) {
            if (has(good, change)) {
                return BigInteger.ZERO;
            }
        }
        BigInteger product = BigInteger.ONE;
        for (Answer answer : search.answers) {
            boolean broken = has(answer.change(), change);
            int factor = answer.passed() ? (broken ? search.p : search.q) : (broken ? search.q - search.p : 0);
            product = product.multiply(BigInteger.valueOf(factor));
        }
        return product;
    }

    private BigInteger sum(int target) {
        BigInteger sum = BigInteger.ZERO;
        for (int i = 0; i < changes(); i++) {
            sum = sum.add(weigh(target, i));
        }
        return sum;
    }

    private BigInteger share(int target, int change) {
        BigInteger sum = BigInteger.ZERO;
        if (isChange(change)) {
            for (int each : known.get(change)) {
                sum = sum.add(weigh(target, each));
            }
        }
        return sum;
    }

    private int candidate(int target) {
        BigInteger total = sum(target);
        int best = NONE;
        BigInteger bestGap = null;
        for (int i = 0; i < changes(); i++) {
            BigInteger part = share(target, i);
            if (isSkipped(i) || part.signum() <= 0 || part.compareTo(total) >= 0) {
                continue;
            }
            BigInteger gap = part.subtract(total.subtract(part)).abs();
            int even = best == NONE ? -1 : gap.compareTo(bestGap);
            if (even < 0 || (even == 0 && built.contains(i) && !built.contains(best))) {
                best = i;
                bestGap = gap;
            }
        }
        return best;
    }

    private boolean isSkipped(int change) {
        for (Goal goal : goals) {
            if (goal.skipped.contains(change)) {
                return true;
            }
        }
        return false;
    }

    private List<Integer> ranking(int target) {
        List<Integer> ranking = new ArrayList<>();
        for (int i = 0; i < changes(); i++) {
            if (weigh(target, i).signum() > 0) {
                ranking.add(i);
            }
        }
        ranking.sort((x, y) -> {
            int heavier = weigh(target, y).compareTo(weigh(target, x));
            return heavier != 0 ? heavier : Integer.compare(x, y);
        });
        return ranking;
    }

    private static long exact(BigInteger number) {
        return number.longValueExact();
    }
}
