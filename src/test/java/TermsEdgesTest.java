import java.math.BigInteger;
import java.util.Arrays;

/** The section 'Terms': each sentence that names a boundary, at the boundary and on both sides of it. */
public final class TermsEdgesTest {
    private static final int NONE = Graphs.NONE;
    private static final int LEAST = Graphs.LEAST;
    private static final int MOST = Graphs.MOST;
    private static final int PASSED = Graphs.PASSED;
    private static final int FAILED = Graphs.FAILED;
    private static final int UNBUILDABLE = Graphs.UNBUILDABLE;
    private static final int GOES_ON = Graphs.GOES_ON;
    private static final int FOUND = Graphs.FOUND;
    private static final int STUCK = Graphs.STUCK;
    private static final int TIRED = Graphs.TIRED;

    private TermsEdgesTest() {
    }

    public static void main(String[] args) {
        changesAreAtMost40();
        changesAreNumberedFrom0();
        parentsAreAtMost3();
        parentsHaveLesserNumbers();
        aChangeHasItself();
        aChangeHasWhatAParentHas();
        targetsAreAtMost4();
        targetsAreNumberedFrom0();
        flakeIsBelowQ();
        flakeBeyondAllBounds();
        sureIs51To100();
        weightIs0IfTheBadOneDoesntHaveIt();
        weightIs0IfAGoodOneHasIt();
        weightIs1BeforeAnAnswer();
        passedWeighsPOrQ();
        failedWeighsQLessPOr0();
        onlyAnswersOfThisSearchWeigh();
        greatestWeights();
        partIsOfThoseThatItHas();
        nextIsntSkippedByAnyTarget();
        nextHasAPartAbove0();
        nextHasAPartBelowTotal();
        nextDiffersLeast();
        ofLikeOnesTheBuiltOne();
        builtDoesntMatterIfNotLike();
        builtIsAskedWithAnAnswer();
        foundIsAtLeastSureHundredths();
        foundForEveryFlakeAndSure();
        foundComesBeforeTired();
        foundComesBeforeStuck();
        tiredIsHaving15Answers();
        skippingDoesntTire();
        tiredComesBeforeStuck();
        stuckIsHavingNoNext();
        asByNow();
        Due.end();
    }

    /** 'CHANGES, at most 40'. */
    private static void changesAreAtMost40() {
        CulpritSearch x = Graphs.chain(39, 1);
        Due.is("39: the last isn't there", x.has(39, 39), false);
        Due.is("39: one more", x.change(38, NONE, NONE), 39);
        Due.is("40: no more", x.change(39, NONE, NONE), NONE);
        Due.is("40: no more without a parent", x.change(NONE, NONE, NONE), NONE);
        Due.is("40: the last is there", x.has(39, 39), true);
        Due.is("40: there is no 40", x.has(40, 40), false);
        Due.is("40: good in the last", x.good(0, 39), 1);
        Due.is("40: not good in 40", x.good(0, 40), -1);
        CulpritSearch y = Graphs.chain(40, 1);
        Due.is("40: bad in 40", y.begin(0, 40, 0, 1, 100), -1);
        Due.is("40: bad in the last", y.begin(0, 39, 0, 1, 100), 40);
        Due.is("40: the last weighs", y.weight(0, 39), 1);
        Due.is("40: 40 doesn't", y.weight(0, 40), 0);
        Due.is("40: the last has all", y.part(0, 39), 40);
        Due.is("40: 40 has nothing", y.part(0, 40), 0);
        Due.is("40: the last is told", y.told(0, 39), 39);
        Due.is("40: none beyond", y.told(0, 40), NONE);
    }

    /** 'CHANGES .. numbered from 0'. */
    private static void changesAreNumberedFrom0() {
        CulpritSearch x = new CulpritSearch();
        Due.is("no change 0 yet", x.has(0, 0), false);
        Due.is("the first", x.change(NONE, NONE, NONE), 0);
        Due.is("the first is there", x.has(0, 0), true);
        Due.is("-1 isn't", x.has(-1, -1), false);
        Due.is("1 isn't yet", x.has(1, 1), false);
        Due.is("the second", x.change(NONE, NONE, NONE), 1);
        Due.is("1 is now", x.has(1, 1), true);
    }

    /** 'at most 3 PARENTS': none, one, two and three, in each place. */
    private static void parentsAreAtMost3() {
        int[][] places = {
            {NONE, NONE, NONE}, {0, NONE, NONE}, {NONE, 0, NONE}, {NONE, NONE, 0},
            {0, 1, NONE}, {1, NONE, 0}, {NONE, 0, 1}, {0, 1, 2}, {2, 1, 0}, {1, 2, 0},
        };
        for (int[] parents : places) {
            CulpritSearch x = Graphs.roots(4, 0);
            String call = "parents " + parents[0] + ", " + parents[1] + ", " + parents[2];
            Due.is(call, x.change(parents[0], parents[1], parents[2]), 4);
            for (int i = 0; i < 4; i++) {
                boolean due = parents[0] == i || parents[1] == i || parents[2] == i;
                Due.is(call + " has " + i, x.has(4, i), due);
            }
        }
    }

    /** 'PARENTS, which have lesser numbers'. */
    private static void parentsHaveLesserNumbers() {
        CulpritSearch x = Graphs.roots(5, 0);
        for (int wrong : new int[] {5, 6}) {
            Due.is("the new one would be 5: a " + wrong, x.change(wrong, NONE, NONE), NONE);
            Due.is("the new one would be 5: b " + wrong, x.change(NONE, wrong, NONE), NONE);
            Due.is("the new one would be 5: c " + wrong, x.change(NONE, NONE, wrong), NONE);
        }
        Due.is("a 4", x.change(4, NONE, NONE), 5);
        Due.is("b 5", x.change(NONE, 5, NONE), 6);
        Due.is("c 6", x.change(NONE, NONE, 6), 7);
        Due.is("7 has 4", x.has(7, 4), true);
        Due.is("7 hasn't 3", x.has(7, 3), false);
    }

    /** 'A CHANGE HAS another one if it is it'. */
    private static void aChangeHasItself() {
        CulpritSearch x = Graphs.roots(40, 0);
        for (int i = 0; i < 40; i++) {
            Due.is(i + " has itself", x.has(i, i), true);
            Due.is(i + " hasn't the one before", x.has(i, i - 1), false);
            Due.is(i + " hasn't the one behind", x.has(i, i + 1), false);
        }
    }

    /** 'or one of its PARENTS HAS it': over one step, over all 39, and never the other way. */
    private static void aChangeHasWhatAParentHas() {
        CulpritSearch x = Graphs.chain(40, 0);
        for (int i = 0; i < 40; i++) {
            Due.is("39 has " + i, x.has(39, i), true);
            Due.is(i + " has 0", x.has(i, 0), true);
            Due.is(i + " has 39", x.has(i, 39), i == 39);
            Due.is(i + " has the one before", x.has(i, i - 1), i > 0);
            Due.is(i + " has the one behind", x.has(i, i + 1), false);
        }
    }

    /** 'TARGETS, at most 4'. */
    private static void targetsAreAtMost4() {
        CulpritSearch x = Graphs.chain(2, 3);
        Due.is("3: the fourth isn't there", x.good(3, 0), -1);
        Due.is("3: one more", x.target(), 3);
        Due.is("4: no more", x.target(), NONE);
        Due.is("4: no more", x.target(), NONE);
        Due.is("4: the fourth is there", x.good(3, 0), 1);
        Due.is("4: 4 isn't", x.good(4, 0), -1);
        Due.is("4: the fourth is searched", x.begin(3, 1, 0, 1, 100), 1);
        Due.is("4: 4 isn't", x.begin(4, 1, 0, 1, 100), -1);
    }

    /** 'TARGETS .. numbered from 0'. */
    private static void targetsAreNumberedFrom0() {
        CulpritSearch x = Graphs.chain(2, 0);
        Due.is("no target 0 yet", x.good(0, 0), -1);
        Due.is("the first", x.target(), 0);
        Due.is("0 is there", x.good(0, 0), 1);
        Due.is("-1 isn't", x.good(-1, 0), -1);
        Due.is("1 isn't yet", x.good(1, 0), -1);
    }

    /** 'a FLAKE p of q (q 1 .. 9, p 0 .. q - 1)': every pair about the bounds. */
    private static void flakeIsBelowQ() {
        CulpritSearch x = Graphs.chain(3, 1);
        for (int q = -1; q <= 11; q++) {
            for (int p = -2; p <= 11; p++) {
                boolean asTold = 1 <= q && q <= 9 && 0 <= p && p <= q - 1;
                Due.is("flake " + p + " of " + q, x.begin(0, 2, p, q, 100), asTold ? 3 : -1);
            }
        }
    }

    private static void flakeBeyondAllBounds() {
        CulpritSearch x = Graphs.chain(3, 1);
        // q - 1 wraps around to the greatest int for the least q, which every p is below.
        int[][] wrong = {{0, LEAST}, {LEAST, LEAST}, {0, MOST}, {LEAST, 1}, {LEAST, 9}, {MOST, 9}, {MOST, MOST}, {MOST - 1, MOST}};
        for (int[] flake : wrong) {
            Due.is("flake " + flake[0] + " of " + flake[1], x.begin(0, 2, flake[0], flake[1], 100), -1);
        }
        Due.is("nothing is begun", x.state(0), NONE);
    }

    /** 'SURE (51 .. 100)'. */
    private static void sureIs51To100() {
        CulpritSearch x = Graphs.chain(3, 1);
        for (int sure = -1; sure <= 202; sure++) {
            Due.is("sure " + sure, x.begin(0, 2, 0, 1, sure), 51 <= sure && sure <= 100 ? 3 : -1);
        }
        for (int sure : new int[] {LEAST, LEAST + 51, -100, -51, MOST}) {
            Due.is("sure " + sure, x.begin(0, 2, 0, 1, sure), -1);
        }
    }

    /** 'WEIGHT of a CHANGE: 0, if the BAD one doesn't HAVE it'. */
    private static void weightIs0IfTheBadOneDoesntHaveIt() {
        CulpritSearch x = Graphs.chain(5, 1);
        Due.is("one beside the bad one", x.change(2, NONE, NONE), 5);
        Due.is("begin", x.begin(0, 3, 0, 1, 100), 4);
        long[] due = {1, 1, 1, 1, 0, 0};
        for (int i = 0; i < due.length; i++) {
            Due.is("bad in 3: weight of " + i, x.weight(0, i), due[i]);
        }
        Due.is("one made later", x.change(3, NONE, NONE), 6);
        Due.is("bad in 3: weight of one made later", x.weight(0, 6), 0);
    }

    /** 'or a GOOD one HAS it': the good one itself, what is before it, what is behind it. */
    private static void weightIs0IfAGoodOneHasIt() {
        CulpritSearch x = Graphs.chain(5, 1);
        x.change(0, NONE, NONE);
        x.change(4, 5, NONE);
        x.good(0, 2);
        Due.is("begin", x.begin(0, 6, 0, 1, 100), 4);
        long[] due = {0, 0, 0, 1, 1, 1, 1};
        for (int i = 0; i < due.length; i++) {
            Due.is("good in 2: weight of " + i, x.weight(0, i), due[i]);
        }
        x.stop(0);
        x.good(0, 5);
        Due.is("begin", x.begin(0, 6, 0, 1, 100), 3);
        Due.is("good in 5 too", x.weight(0, 5), 0);
        Due.is("good in 5 too: 3 still weighs", x.weight(0, 3), 1);
    }

    /** 'else the product, over all answers': of none it is 1, whatever p and q are. */
    private static void weightIs1BeforeAnAnswer() {
        CulpritSearch x = Graphs.chain(3, 1);
        for (int q = 1; q <= 9; q++) {
            x.begin(0, 2, q - 1, q, 100);
            Due.is("before an answer, q " + q, x.weight(0, 0), 1);
            Due.is("before an answer, q " + q, x.weight(0, 2), 1);
            Due.is("before an answer, q " + q, x.total(0), 3);
        }
        x.answer(0, UNBUILDABLE);
        Due.is("skipping is no answer", x.weight(0, 0), 1);
        Due.is("skipping is no answer", x.total(0), 3);
    }

    /** 'PASSED in a CHANGE that HAS it: p; PASSED in another one: q'. */
    private static void passedWeighsPOrQ() {
        for (int q = 1; q <= 9; q++) {
            for (int p = 0; p < q; p++) {
                CulpritSearch x = Graphs.chain(4, 1);
                x.begin(0, 3, p, q, 100);
                Due.is("asked in", x.next(0), 1);
                x.answer(0, PASSED);
                String flake = p + " of " + q + ", passed in 1: ";
                Due.is(flake + "0", x.weight(0, 0), p);
                Due.is(flake + "1", x.weight(0, 1), p);
                Due.is(flake + "2", x.weight(0, 2), q);
                Due.is(flake + "3", x.weight(0, 3), q);
                Due.is(flake + "total", x.total(0), 2L * p + 2L * q);
            }
        }
    }

    /** 'FAILED in a CHANGE that HAS it: q - p; FAILED in another one: 0'. */
    private static void failedWeighsQLessPOr0() {
        for (int q = 1; q <= 9; q++) {
            for (int p = 0; p < q; p++) {
                CulpritSearch x = Graphs.chain(4, 1);
                x.begin(0, 3, p, q, 100);
                x.answer(0, FAILED);
                String flake = p + " of " + q + ", failed in 1: ";
                Due.is(flake + "0", x.weight(0, 0), q - p);
                Due.is(flake + "1", x.weight(0, 1), q - p);
                Due.is(flake + "2", x.weight(0, 2), 0);
                Due.is(flake + "3", x.weight(0, 3), 0);
                Due.is(flake + "total", x.total(0), 2L * (q - p));
            }
        }
    }

    /** 'over all answers of this SEARCH': not of another target's, not of one before. */
    private static void onlyAnswersOfThisSearchWeigh() {
        CulpritSearch x = Graphs.chain(4, 2);
        x.begin(0, 3, 1, 3, 100);
        x.begin(1, 3, 2, 5, 100);
        x.answer(0, PASSED);
        Due.is("the other's answer doesn't weigh", x.total(1), 4);
        x.answer(1, FAILED);
        Due.is("each has its own: 1 1 3 3", x.total(0), 8);
        Due.is("each has its own: 3 3 0 0", x.total(1), 6);
        x.answer(0, PASSED);
        Due.is("all answers, passed in 1 and in 2: 1 1 3 9", x.total(0), 14);
        x.begin(0, 3, 1, 3, 100);
        Due.is("begun anew", x.total(0), 4);
        x.stop(1);
        x.begin(1, 3, 2, 5, 100);
        Due.is("given up and begun", x.total(1), 4);
    }

    /** 15 answers of 8 of 9 among 40: nothing may be rounded, and nothing wrap around. */
    private static void greatestWeights() {
        CulpritSearch x = Graphs.chain(40, 1);
        x.begin(0, 39, 8, 9, 100);
        BigInteger[] due = new BigInteger[40];
        Arrays.fill(due, BigInteger.ONE);
        for (int n = 0; n < 15; n++) {
            int asked = x.next(0);
            for (int i = 0; i < 40; i++) {
                due[i] = due[i].multiply(BigInteger.valueOf(i <= asked ? 8 : 9));
            }
            Due.is("answer " + n, x.answer(0, PASSED), n < 14 ? GOES_ON : TIRED);
        }
        BigInteger sum = BigInteger.ZERO;
        for (int i = 0; i < 40; i++) {
            sum = sum.add(due[i]);
            Due.is("weight of " + i, x.weight(0, i), due[i].longValueExact());
            Due.is("part of " + i, x.part(0, i), sum.longValueExact());
        }
        Due.is("total", x.total(0), sum.longValueExact());
        Due.is("the greatest weight: 9 to the 15th", x.weight(0, 39), 205891132094649L);
    }

    /** 'PART of a CHANGE: the sum of the WEIGHTS of those that it HAS'. */
    private static void partIsOfThoseThatItHas() {
        CulpritSearch x = Graphs.roots(3, 1);
        x.change(0, 1, NONE);
        x.change(3, 2, 0);
        x.change(4, NONE, NONE);
        x.good(0, 2);
        x.begin(0, 4, 0, 1, 100);
        long[] due = {1, 1, 0, 3, 4, 4};
        for (int i = 0; i < due.length; i++) {
            Due.is("part of " + i, x.part(0, i), due[i]);
        }
        Due.is("total is the bad one's part", x.total(0), 4);
    }

    /** 'of all CHANGES that aren't SKIPPED (by any TARGET)'. */
    private static void nextIsntSkippedByAnyTarget() {
        CulpritSearch x = Graphs.chain(4, 4);
        for (int i = 0; i < 4; i++) {
            x.begin(i, 3, 0, 1, 100);
            Due.is("not skipped yet", x.next(i), 1);
        }
        x.answer(3, UNBUILDABLE);
        for (int i = 0; i < 4; i++) {
            Due.is("skipped by target 3", x.next(i), 0);
        }
        x.answer(0, UNBUILDABLE);
        for (int i = 0; i < 4; i++) {
            Due.is("skipped by targets 3 and 0", x.next(i), 2);
        }
        x.stop(3);
        x.begin(0, 3, 0, 1, 100);
        for (int i = 0; i < 3; i++) {
            Due.is("still, after a stop and a begin", x.next(i), 2);
        }
    }

    /** 'whose PART is above 0': 0 isn't asked, 1 is. */
    private static void nextHasAPartAbove0() {
        CulpritSearch x = Graphs.chain(4, 1);
        x.good(0, 0);
        x.begin(0, 3, 0, 1, 100);
        Due.is("parts 0 1 2 3", x.next(0), 1);
        x.answer(0, UNBUILDABLE);
        Due.is("1 is skipped", x.next(0), 2);
        x.answer(0, UNBUILDABLE);
        Due.is("only one with a part of 0 is left", x.next(0), NONE);
        CulpritSearch y = Graphs.chain(20, 1);
        y.begin(0, 19, 0, 1, 100);
        for (int i = 0; i < 17; i++) {
            y.answer(0, UNBUILDABLE);
        }
        Due.is("a part of 1 of 20", y.next(0), 0);
        Due.is("a part of 1 of 20", y.part(0, 0), 1);
    }

    /** 'and below TOTAL': TOTAL isn't asked, one less is. */
    private static void nextHasAPartBelowTotal() {
        CulpritSearch x = Graphs.chain(6, 1);
        x.begin(0, 4, 0, 1, 100);
        int[] due = {1, 2, 0, 3};
        for (int each : due) {
            Due.is("parts 1 2 3 4 5 5", x.next(0), each);
            Due.is("part of " + each, x.part(0, each), each + 1);
            x.answer(0, UNBUILDABLE);
        }
        Due.is("only those with all of it are left", x.next(0), NONE);
        Due.is("the bad one has all", x.part(0, 4), x.total(0));
        Due.is("one behind it has all", x.part(0, 5), x.total(0));
    }

    /** 'the one for which PART and TOTAL less PART differ least': below and above the half alike. */
    private static void nextDiffersLeast() {
        CulpritSearch x = manySides();
        Due.is("parts 1 1 1 4 1 6 of 6", x.next(0), 3);
        Due.is("a part of 2", x.change(0, 1, NONE), 6);
        Due.is("4 and 2 of 6 differ alike: the lesser number", x.next(0), 3);
        Due.is("a part of 3", x.change(0, 1, 4), 7);
        Due.is("3 of 6 differs least", x.next(0), 7);
        Due.is("another one", x.change(0, 2, 4), 8);
        Due.is("of like ones the lesser number", x.next(0), 7);
    }

    /** 'of like ones one that is BUILT comes first, then the lesser number'. */
    private static void ofLikeOnesTheBuiltOne() {
        CulpritSearch x = manySides();
        x.change(0, 1, NONE);
        x.change(6, NONE, NONE);
        Due.is("3 and 6 are like", x.next(0), 3);
        x.good(1, 0);
        x.good(1, 1);
        x.begin(1, 7, 0, 1, 100);
        Due.is("the other one asks 6", x.next(1), 6);
        Due.is("asked alone isn't built", x.next(0), 3);
        x.answer(1, PASSED);
        Due.is("6 is built", x.next(0), 6);
        x.good(2, 0);
        x.good(2, 1);
        x.good(2, 2);
        x.begin(2, 5, 0, 1, 100);
        Due.is("a third one asks 3", x.next(2), 3);
        x.answer(2, FAILED);
        Due.is("both are built: the lesser number", x.next(0), 3);
    }

    /** 0 to 2 merged in 3, 3 and 4 merged in 5, which is the bad one of target 0. */
    private static CulpritSearch manySides() {
        CulpritSearch x = Graphs.roots(3, 4);
        x.change(0, 1, 2);
        x.change(NONE, NONE, NONE);
        x.change(3, 4, NONE);
        x.begin(0, 5, 0, 1, 100);
        return x;
    }

    /** 'of like ones': one that is built, but parts a little less evenly, comes behind. */
    private static void builtDoesntMatterIfNotLike() {
        CulpritSearch x = Graphs.chain(4, 3);
        x.begin(1, 1, 0, 1, 100);
        x.answer(1, PASSED);
        x.good(2, 1);
        x.begin(2, 3, 0, 1, 100);
        x.answer(2, PASSED);
        Due.is("0 and 2 are built", x.counted(0, 2), 2);
        x.begin(0, 3, 0, 1, 100);
        Due.is("1 of 4, 2 of 4, 3 of 4: the one in the middle", x.next(0), 1);
        x.answer(0, UNBUILDABLE);
        Due.is("0 and 2 are like, and both built", x.next(0), 0);
    }

    /** 'Asked with an answer, a CHANGE is BUILT'. */
    private static void builtIsAskedWithAnAnswer() {
        CulpritSearch x = Graphs.chain(8, 2);
        x.begin(0, 7, 1, 2, 100);
        Due.is("begun", x.counted(0, 2), 0);
        x.next(0);
        Due.is("asked", x.counted(0, 2), 0);
        x.answer(0, UNBUILDABLE);
        Due.is("can't be built", x.counted(0, 2), 0);
        x.answer(0, 3);
        Due.is("no such answer", x.counted(0, 2), 0);
        x.answer(0, PASSED);
        Due.is("passed", x.counted(0, 2), 1);
        x.begin(0, 7, 0, 1, 100);
        Due.is("it is the one that is asked again", x.next(0), 2);
        x.answer(0, FAILED);
        Due.is("again is once", x.counted(0, 2), 1);
        x.answer(0, FAILED);
        Due.is("failed in another one", x.counted(0, 2), 2);
    }

    /** 'FOUND (1), if a CHANGE's WEIGHT is at least SURE hundredths of TOTAL': just, and just not. */
    private static void foundIsAtLeastSureHundredths() {
        // p, q and the greatest sure for which q is enough of p + q.
        int[][] edges = {{1, 3, 75}, {1, 4, 80}, {1, 9, 90}, {2, 3, 60}, {3, 7, 70}, {8, 9, 52}, {7, 9, 56}, {0, 1, 100}};
        for (int[] edge : edges) {
            for (int sure = edge[2] - 1; sure <= Math.min(100, edge[2] + 1); sure++) {
                CulpritSearch x = Graphs.chain(2, 1);
                x.begin(0, 1, edge[0], edge[1], sure);
                boolean enough = sure <= edge[2];
                String call = edge[0] + " of " + edge[1] + ", sure " + sure;
                Due.is(call + ": not before", x.state(0), GOES_ON);
                Due.is(call + ": passed", x.answer(0, PASSED), enough ? FOUND : GOES_ON);
                Due.is(call + ": found", x.found(0), enough ? 1 : NONE);
            }
        }
        CulpritSearch y = Graphs.chain(2, 1);
        Due.is("two of like weight", y.begin(0, 1, 0, 1, 51), 2);
        Due.is("50 hundredths are never enough", y.state(0), GOES_ON);
    }

    private static void foundForEveryFlakeAndSure() {
        for (int q = 1; q <= 9; q++) {
            for (int p = 0; p < q; p++) {
                for (int sure = 51; sure <= 100; sure++) {
                    CulpritSearch x = Graphs.chain(2, 1);
                    x.begin(0, 1, p, q, sure);
                    boolean enough = 100 * q >= sure * (p + q);
                    Due.is(p + " of " + q + ", sure " + sure, x.answer(0, PASSED), enough ? FOUND : GOES_ON);
                }
            }
        }
    }

    /** 'else TIRED': by the 15th answer it is found, or tired. 9 to the 15th is 85.4 hundredths. */
    private static void foundComesBeforeTired() {
        for (int sure = 83; sure <= 87; sure++) {
            CulpritSearch x = Graphs.chain(2, 1);
            x.begin(0, 1, 8, 9, sure);
            Graphs.answerAll(x, 0, PASSED, 14);
            Due.is("14 answers, sure " + sure, x.state(0), sure <= 83 ? FOUND : GOES_ON);
            Due.is("the 15th, sure " + sure, x.answer(0, PASSED), sure <= 83 ? NONE : sure <= 85 ? FOUND : TIRED);
            Due.is("15 answers, sure " + sure, x.state(0), sure <= 85 ? FOUND : TIRED);
        }
    }

    /** 'else STUCK': a search with one change that may be it has no next, but is found. */
    private static void foundComesBeforeStuck() {
        CulpritSearch x = Graphs.chain(2, 2);
        Due.is("one", x.begin(0, 0, 0, 1, 100), 1);
        Due.is("one: found", x.state(0), FOUND);
        Due.is("two", x.begin(0, 1, 1, 3, 75), 2);
        x.begin(1, 1, 0, 1, 100);
        Due.is("two: found", x.answer(0, PASSED), FOUND);
        x.answer(1, UNBUILDABLE);
        Due.is("the other one is stuck", x.state(1), STUCK);
        Due.is("this one is found", x.state(0), FOUND);
    }

    /** 'TIRED (3), if it had 15 answers': 14 aren't enough, a 16th isn't taken. */
    private static void tiredIsHaving15Answers() {
        CulpritSearch x = Graphs.chain(2, 1);
        x.begin(0, 1, 8, 9, 100);
        for (int i = 1; i <= 14; i++) {
            Due.is("answer " + i, x.answer(0, PASSED), GOES_ON);
        }
        Due.is("14 answers", x.counted(0, 0), 14);
        Due.is("14 answers: next", x.next(0), 0);
        Due.is("answer 15", x.answer(0, PASSED), TIRED);
        Due.is("15 answers", x.counted(0, 0), 15);
        Due.is("15 answers: next", x.next(0), NONE);
        long total = x.total(0);
        for (int outcome = 0; outcome <= 2; outcome++) {
            Due.is("answer 16", x.answer(0, outcome), NONE);
        }
        Due.is("still 15 answers", x.counted(0, 0), 15);
        Due.is("still their weights", x.total(0), total);
        Due.is("begun anew", x.begin(0, 1, 8, 9, 100), 2);
        Due.is("begun anew it isn't tired", x.state(0), GOES_ON);
    }

    /** Those that were skipped are no answers, as promise 17 says. */
    private static void skippingDoesntTire() {
        CulpritSearch x = Graphs.chain(4, 1);
        x.begin(0, 3, 8, 9, 100);
        Graphs.answerAll(x, 0, PASSED, 14);
        Due.is("14 answers, one skipped", x.answer(0, UNBUILDABLE), GOES_ON);
        Due.is("14 answers, two skipped", x.answer(0, UNBUILDABLE), GOES_ON);
        Due.is("still 14 answers", x.counted(0, 0), 14);
        Due.is("15 answers", x.answer(0, PASSED), TIRED);
    }

    /** 'else TIRED .. else STUCK'. */
    private static void tiredComesBeforeStuck() {
        CulpritSearch x = Graphs.chain(2, 3);
        x.begin(0, 1, 8, 9, 100);
        x.begin(1, 1, 8, 9, 100);
        Graphs.answerAll(x, 0, PASSED, 15);
        Graphs.answerAll(x, 1, PASSED, 14);
        x.begin(2, 1, 0, 1, 100);
        Due.is("0 is skipped", x.answer(2, UNBUILDABLE), STUCK);
        Due.is("15 answers and no next", x.state(0), TIRED);
        Due.is("14 answers and no next", x.state(1), STUCK);
    }

    /** 'STUCK (2), if there is no NEXT'. */
    private static void stuckIsHavingNoNext() {
        CulpritSearch x = Graphs.chain(3, 1);
        x.begin(0, 2, 0, 1, 100);
        Due.is("two may be asked", x.state(0), GOES_ON);
        Due.is("one may be asked", x.answer(0, UNBUILDABLE), GOES_ON);
        Due.is("none may be asked", x.answer(0, UNBUILDABLE), STUCK);
        Due.is("stuck", x.state(0), STUCK);
        Due.is("stuck: none was found", x.found(0), NONE);
        Due.is("stuck: all still weigh", x.total(0), 3);
        Due.is("begun anew", x.begin(0, 2, 0, 1, 100), 3);
        Due.is("begun anew it is stuck again", x.state(0), STUCK);
        Due.is("of one, it is found", x.begin(0, 0, 0, 1, 100), 1);
        Due.is("of one, it is found", x.state(0), FOUND);
    }

    /** 'As by now: what another TARGET SKIPPED counts'. */
    private static void asByNow() {
        CulpritSearch x = Graphs.chain(3, 2);
        x.begin(0, 2, 0, 1, 100);
        x.begin(1, 2, 0, 1, 100);
        Due.is("0 skips 0", x.answer(0, UNBUILDABLE), GOES_ON);
        Due.is("1 goes on", x.state(1), GOES_ON);
        Due.is("1 asks 1", x.next(1), 1);
        Due.is("1 skips 1", x.answer(1, UNBUILDABLE), STUCK);
        Due.is("0 is stuck, though it had no answer since", x.state(0), STUCK);
        Due.is("0 asks nothing", x.next(0), NONE);
        Due.is("0 takes no answer", x.answer(0, PASSED), NONE);
        x.stop(1);
        Due.is("0 is stuck, though 1 is given up", x.state(0), STUCK);
        x.change(1, NONE, NONE);
        Due.is("0 goes on by a new change", x.state(0), GOES_ON);
        Due.is("0 asks the new one", x.next(0), 3);
    }
}
