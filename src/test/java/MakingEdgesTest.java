/** Promises 1 to 7: each sentence that names a boundary, at the boundary and on both sides of it. */
public final class MakingEdgesTest {
    private static final int NONE = Graphs.NONE;
    private static final int LEAST = Graphs.LEAST;
    private static final int MOST = Graphs.MOST;
    private static final int PASSED = Graphs.PASSED;
    private static final int FAILED = Graphs.FAILED;
    private static final int UNBUILDABLE = Graphs.UNBUILDABLE;
    private static final int GOES_ON = Graphs.GOES_ON;
    private static final int FOUND = Graphs.FOUND;
    private static final int[] NO_CHANGES_OF_5 = {-1, -2, 5, 6, 39, 40, 41, 63, 64, 65, 66, 128, LEAST, LEAST + 1, MOST - 1, MOST};
    private static final int[] NO_TARGETS_OF_2 = {-1, -2, 2, 3, 4, 5, 32, 64, LEAST, LEAST + 1, MOST - 1, MOST};

    private MakingEdgesTest() {
    }

    public static void main(String[] args) {
        promise1NoChanges();
        promise1NoTargets();
        promise1ObjectsAreApart();
        promise2NoneIsNoParent();
        promise2TheSameTwiceIsOne();
        promise2NoneIfThereAre40();
        promise2NoneIfAParentIsNoneSuch();
        promise2RefusedChangesNothing();
        promise3FalseIfThereAreNoneSuch();
        promise4NoneIfThereAre4();
        promise4ANewTargetIsEmpty();
        promise5NoneSuch();
        promise5ItsSearchHasBegun();
        promise5AlreadyGood();
        promise5RefusedChangesNothing();
        promise6HowManyHaveAWeight();
        promise6NoneSuch();
        promise6RefusedBeginsNothing();
        promise6AGoodOneHasTheBadOne();
        promise6WrongBeforeGood();
        promise6GoodBeginsNothing();
        promise6Anew();
        promise6AnewAfterEveryState();
        promise7HadNone();
        promise7HasNone();
        promise7KeepsTheRest();
        Due.end();
    }

    /** 'No CHANGES'. */
    private static void promise1NoChanges() {
        CulpritSearch x = new CulpritSearch();
        x.target();
        for (int i = -2; i <= 41; i++) {
            Due.is("1 no change " + i, x.has(i, i), false);
            Due.is("1 not good in " + i, x.good(0, i), -1);
            Due.is("1 not bad in " + i, x.begin(0, i, 0, 1, 100), -1);
        }
        Due.is("1 no parents", x.change(0, NONE, NONE), NONE);
        Due.is("1 nothing is built", x.counted(0, 2), 0);
    }

    /** 'no TARGETS'. */
    private static void promise1NoTargets() {
        CulpritSearch x = new CulpritSearch();
        x.change(NONE, NONE, NONE);
        for (int i = -1; i <= 5; i++) {
            Due.is("1 no good target " + i, x.good(i, 0), -1);
            Due.is("1 no bad target " + i, x.begin(i, 0, 0, 1, 100), -1);
            Due.is("1 nothing to stop " + i, x.stop(i), false);
            Due.is("1 no state " + i, x.state(i), NONE);
            Due.is("1 no next " + i, x.next(i), NONE);
            Due.is("1 no answer " + i, x.answer(i, PASSED), NONE);
            Due.is("1 no weight " + i, x.weight(i, 0), 0);
            Due.is("1 no part " + i, x.part(i, 0), 0);
            Due.is("1 no total " + i, x.total(i), 0);
            Due.is("1 none found " + i, x.found(i), NONE);
            Due.is("1 none told " + i, x.told(i, 0), NONE);
            Due.is("1 no way " + i, x.way(i, 0), NONE);
            Due.is("1 no answers " + i, x.counted(i, 0), NONE);
            Due.is("1 none skipped " + i, x.counted(i, 1), NONE);
            Due.is("1 none built " + i, x.counted(i, 2), 0);
            Due.is("1 none bad " + i, x.counted(i, 3), NONE);
        }
    }

    private static void promise1ObjectsAreApart() {
        CulpritSearch x = Graphs.chain(4, 2);
        x.begin(0, 3, 0, 1, 100);
        x.answer(0, PASSED);
        x.answer(0, UNBUILDABLE);
        CulpritSearch y = new CulpritSearch();
        Due.is("1 the new one has no changes", y.has(0, 0), false);
        Due.is("1 the new one has no targets", y.counted(0, 1), NONE);
        Due.is("1 the new one has built nothing", y.counted(0, 2), 0);
        Due.is("1 its first change", y.change(NONE, NONE, NONE), 0);
        Due.is("1 its first target", y.target(), 0);
        Due.is("1 the other's stay", x.has(3, 0), true);
        Due.is("1 the other's stay", x.counted(0, 1), 1);
    }

    /** 'NONE: none': a change may have no parent at all, as the first one must. */
    private static void promise2NoneIsNoParent() {
        CulpritSearch x = new CulpritSearch();
        Due.is("2 the first", x.change(NONE, NONE, NONE), 0);
        Due.is("2 the second, without a parent", x.change(NONE, NONE, NONE), 1);
        Due.is("2 it hasn't the first", x.has(1, 0), false);
        Due.is("2 -1 is NONE", x.change(-1, 0, -1), 2);
        Due.is("2 -2 isn't", x.change(-2, 0, -1), NONE);
        Due.is("2 nor is -2 in b", x.change(0, -2, -1), NONE);
        Due.is("2 nor is -2 in c", x.change(0, -1, -2), NONE);
    }

    /** 'the same twice is one': in every pair of places, and in all three. */
    private static void promise2TheSameTwiceIsOne() {
        int[][] twice = {{1, 1, NONE}, {1, NONE, 1}, {NONE, 1, 1}, {1, 1, 1}, {1, 1, 0}, {0, 1, 1}, {1, 0, 1}};
        for (int[] same : twice) {
            CulpritSearch x = Graphs.roots(2, 1);
            String call = "2 parents " + same[0] + ", " + same[1] + ", " + same[2];
            boolean both = same[0] == 0 || same[1] == 0 || same[2] == 0;
            Due.is(call, x.change(same[0], same[1], same[2]), 2);
            Due.is(call + ": 2 has 1", x.has(2, 1), true);
            Due.is(call + ": 2 has 0", x.has(2, 0), both);
            Due.is(call + ": how many weigh", x.begin(0, 2, 0, 1, 100), both ? 3 : 2);
            Due.is(call + ": 1 weighs once", x.weight(0, 1), 1);
            Due.is(call + ": 1 is part once", x.part(0, 2), both ? 3 : 2);
            Due.is(call + ": the next number", x.change(2, NONE, NONE), 3);
        }
    }

    /** 'NONE if there are 40': 39 aren't too many. */
    private static void promise2NoneIfThereAre40() {
        CulpritSearch x = Graphs.roots(38, 1);
        Due.is("2 38 are there", x.change(NONE, NONE, NONE), 38);
        Due.is("2 39 are there", x.change(NONE, NONE, NONE), 39);
        Due.is("2 40 are there", x.change(NONE, NONE, NONE), NONE);
        Due.is("2 40 are there: one with parents", x.change(39, 38, 37), NONE);
        Due.is("2 40 are there: a wrong parent", x.change(40, NONE, NONE), NONE);
        Due.is("2 the last one is as it was", x.has(39, 38), false);
        Due.is("2 40 isn't there", x.has(40, 39), false);
    }

    /** 'or a PARENT is none such': in each place, beside good ones. */
    private static void promise2NoneIfAParentIsNoneSuch() {
        CulpritSearch x = Graphs.chain(5, 0);
        for (int wrong : NO_CHANGES_OF_5) {
            if (wrong == NONE) {
                continue;
            }
            Due.is("2 a is " + wrong, x.change(wrong, NONE, NONE), NONE);
            Due.is("2 b is " + wrong, x.change(NONE, wrong, NONE), NONE);
            Due.is("2 c is " + wrong, x.change(NONE, NONE, wrong), NONE);
            Due.is("2 a is " + wrong + " beside others", x.change(wrong, 1, 2), NONE);
            Due.is("2 b is " + wrong + " beside others", x.change(1, wrong, 2), NONE);
            Due.is("2 c is " + wrong + " beside others", x.change(1, 2, wrong), NONE);
            Due.is("2 all are " + wrong, x.change(wrong, wrong, wrong), NONE);
        }
        Due.is("2 a is 4", x.change(4, NONE, NONE), 5);
        Due.is("2 b is 5", x.change(NONE, 5, NONE), 6);
        Due.is("2 c is 0", x.change(NONE, NONE, 0), 7);
    }

    private static void promise2RefusedChangesNothing() {
        CulpritSearch x = Graphs.chain(5, 2);
        x.begin(0, 4, 1, 3, 100);
        x.answer(0, PASSED);
        String before = Graphs.seen(x, 6, 2);
        x.change(5, NONE, NONE);
        x.change(0, -2, NONE);
        x.change(0, 1, MOST);
        Due.is("2 a refused change changes nothing", Graphs.seen(x, 6, 2).equals(before), true);
        Due.is("2 a refused change takes no number", x.change(4, NONE, NONE), 5);
    }

    /** 'false if there are none such': the one, the other, or both. */
    private static void promise3FalseIfThereAreNoneSuch() {
        CulpritSearch x = Graphs.chain(5, 0);
        for (int wrong : NO_CHANGES_OF_5) {
            for (int i = 0; i < 5; i += 2) {
                Due.is("3 has(" + wrong + ", " + i + ")", x.has(wrong, i), false);
                Due.is("3 has(" + i + ", " + wrong + ")", x.has(i, wrong), false);
            }
            Due.is("3 neither: " + wrong, x.has(wrong, wrong), false);
        }
        Due.is("3 the last has the first", x.has(4, 0), true);
        Due.is("3 the first hasn't the last", x.has(0, 4), false);
        Due.is("3 not yet", x.has(5, 4), false);
        x.change(4, NONE, NONE);
        Due.is("3 now", x.has(5, 4), true);
    }

    /** 'NONE if there are 4': 3 aren't too many. */
    private static void promise4NoneIfThereAre4() {
        CulpritSearch x = new CulpritSearch();
        for (int i = 0; i < 4; i++) {
            Due.is("4 " + i + " isn't there", x.counted(i, 1), NONE);
            Due.is("4 " + i + " are there", x.target(), i);
            Due.is("4 " + i + " is there", x.counted(i, 1), 0);
        }
        for (int i = 0; i < 3; i++) {
            Due.is("4 4 are there", x.target(), NONE);
            Due.is("4 4 isn't there", x.counted(4, 1), NONE);
        }
    }

    /** 'A new TARGET': nothing of another one's, and a refused one takes nothing from those there. */
    private static void promise4ANewTargetIsEmpty() {
        CulpritSearch x = Graphs.chain(4, 3);
        x.good(2, 0);
        x.begin(2, 3, 1, 3, 100);
        x.answer(2, UNBUILDABLE);
        x.answer(2, PASSED);
        Due.is("4 a new one", x.target(), 3);
        Due.is("4 it has no search", x.state(3), NONE);
        Due.is("4 it skipped nothing", x.counted(3, 1), 0);
        Due.is("4 it is good nowhere", x.begin(3, 3, 0, 1, 100), 4);
        String before = Graphs.seen(x, 4, 4);
        Due.is("4 no more", x.target(), NONE);
        Due.is("4 a refused target changes nothing", Graphs.seen(x, 4, 4).equals(before), true);
    }

    /** '- 1 if there are none such': the target, the change, or both. */
    private static void promise5NoneSuch() {
        CulpritSearch x = Graphs.chain(5, 2);
        for (int wrong : NO_TARGETS_OF_2) {
            Due.is("5 no target " + wrong, x.good(wrong, 0), -1);
            Due.is("5 no target " + wrong + ", no change", x.good(wrong, 5), -1);
        }
        for (int wrong : NO_CHANGES_OF_5) {
            Due.is("5 no change " + wrong, x.good(0, wrong), -1);
            Due.is("5 no change " + wrong, x.good(1, wrong), -1);
        }
        Due.is("5 nothing was known", x.begin(0, 4, 0, 1, 100), 5);
        Due.is("5 the last target, the last change", x.good(1, 4), 1);
        x.stop(0);
        Due.is("5 the first target, the first change", x.good(0, 0), 1);
    }

    /** 'or its SEARCH has begun': not before, not after a stop, not another target's. */
    private static void promise5ItsSearchHasBegun() {
        CulpritSearch x = Graphs.chain(5, 2);
        Due.is("5 before", x.good(0, 0), 1);
        x.begin(0, 4, 0, 1, 100);
        Due.is("5 begun", x.good(0, 1), -1);
        Due.is("5 begun, the other one", x.good(1, 1), 1);
        x.answer(0, FAILED);
        x.answer(0, FAILED);
        Due.is("5 found", x.state(0), FOUND);
        Due.is("5 found is begun", x.good(0, 1), -1);
        Due.is("5 found is begun, one known already", x.good(0, 0), -1);
        x.stop(0);
        Due.is("5 given up", x.good(0, 1), 1);
        Due.is("5 a begin that is refused", x.begin(0, 4, 1, 1, 100), -1);
        Due.is("5 hasn't begun it", x.good(0, 2), 1);
        Due.is("5 a begin that is refused", x.begin(0, 2, 0, 1, 100), -2);
        Due.is("5 hasn't begun it", x.good(0, 3), 1);
    }

    /** 'else 0 if it is already': of this target, in this change. */
    private static void promise5AlreadyGood() {
        CulpritSearch x = Graphs.chain(5, 2);
        Due.is("5 new", x.good(0, 2), 1);
        Due.is("5 already", x.good(0, 2), 0);
        Due.is("5 already, again", x.good(0, 2), 0);
        Due.is("5 the change before", x.good(0, 1), 1);
        Due.is("5 the change behind", x.good(0, 3), 1);
        Due.is("5 the other target", x.good(1, 2), 1);
        x.begin(0, 4, 0, 1, 100);
        Due.is("5 -1 comes before 0", x.good(0, 2), -1);
        x.stop(0);
        Due.is("5 already, after a search", x.good(0, 2), 0);
    }

    private static void promise5RefusedChangesNothing() {
        CulpritSearch x = Graphs.chain(5, 2);
        x.good(0, 1);
        x.begin(0, 4, 1, 3, 100);
        String before = Graphs.seen(x, 5, 2);
        for (int i = -1; i <= 5; i++) {
            Due.is("5 begun", x.good(0, i), -1);
            Due.is("5 no target", x.good(2, i), -1);
        }
        Due.is("5 a refused good changes nothing", Graphs.seen(x, 5, 2).equals(before), true);
        Due.is("5 nor does it later", x.begin(0, 4, 1, 3, 100), 3);
        Due.is("5 nor for the other one", x.begin(1, 4, 1, 3, 100), 5);
    }

    /** 'how many CHANGES have a WEIGHT': from one to all. */
    private static void promise6HowManyHaveAWeight() {
        CulpritSearch x = Graphs.chain(40, 2);
        for (int bad = 0; bad < 40; bad++) {
            Due.is("6 bad in " + bad, x.begin(0, bad, 0, 1, 100), bad + 1);
        }
        x.good(1, 20);
        for (int bad = 0; bad < 40; bad++) {
            Due.is("6 good in 20, bad in " + bad, x.begin(1, bad, 0, 1, 100), bad <= 20 ? -2 : bad - 20);
        }
    }

    /** '- 1 if there are none such': the target or the change. */
    private static void promise6NoneSuch() {
        CulpritSearch x = Graphs.chain(5, 2);
        for (int wrong : NO_TARGETS_OF_2) {
            Due.is("6 no target " + wrong, x.begin(wrong, 4, 0, 1, 100), -1);
        }
        for (int wrong : NO_CHANGES_OF_5) {
            Due.is("6 no change " + wrong, x.begin(0, wrong, 0, 1, 100), -1);
        }
        Due.is("6 nothing is begun", x.state(0), NONE);
        Due.is("6 nothing is begun", x.state(1), NONE);
        Due.is("6 the first target, the first change", x.begin(0, 0, 0, 1, 100), 1);
        Due.is("6 the last target, the last change", x.begin(1, 4, 0, 1, 100), 5);
    }

    /** 'or p, q, SURE aren't as told': the search that was there stays as it was. */
    private static void promise6RefusedBeginsNothing() {
        CulpritSearch x = Graphs.chain(5, 2);
        x.begin(0, 4, 1, 3, 90);
        x.answer(0, PASSED);
        String before = Graphs.seen(x, 5, 2);
        for (int target = 0; target < 2; target++) {
            Due.is("6 q 0", x.begin(target, 3, 0, 0, 90), -1);
            Due.is("6 q 10", x.begin(target, 3, 0, 10, 90), -1);
            Due.is("6 p -1", x.begin(target, 3, -1, 3, 90), -1);
            Due.is("6 p 3 of 3", x.begin(target, 3, 3, 3, 90), -1);
            Due.is("6 sure 50", x.begin(target, 3, 1, 3, 50), -1);
            Due.is("6 sure 101", x.begin(target, 3, 1, 3, 101), -1);
            Due.is("6 no change", x.begin(target, 5, 1, 3, 90), -1);
        }
        Due.is("6 a refused begin changes nothing", Graphs.seen(x, 5, 2).equals(before), true);
        x.answer(0, PASSED);
        Due.is("6 the first p: 1 1 3 9 9", x.weight(0, 0), 1);
        Due.is("6 the first q: 1 1 3 9 9", x.weight(0, 4), 9);
    }

    /** '- 2 if a GOOD one HAS the BAD one': the one itself, one before it, but not one behind it. */
    private static void promise6AGoodOneHasTheBadOne() {
        CulpritSearch x = Graphs.chain(5, 2);
        x.change(1, NONE, NONE);
        x.good(0, 2);
        int[] due = {-2, -2, -2, 1, 2, 1};
        for (int bad = 0; bad < due.length; bad++) {
            Due.is("6 good in 2, bad in " + bad, x.begin(0, bad, 0, 1, 100), due[bad]);
        }
        x.stop(0);
        x.good(0, 5);
        Due.is("6 good in 5 too, bad in 5", x.begin(0, 5, 0, 1, 100), -2);
        Due.is("6 good in 5 too, bad in 2", x.begin(0, 2, 0, 1, 100), -2);
        Due.is("6 good in 5 too, bad in 3", x.begin(0, 3, 0, 1, 100), 1);
        Due.is("6 the other one is good nowhere", x.begin(1, 2, 0, 1, 100), 3);
    }

    /** '- 1 ..; else - 2': both at once is - 1. */
    private static void promise6WrongBeforeGood() {
        CulpritSearch x = Graphs.chain(3, 1);
        x.good(0, 1);
        Due.is("6 only the good one", x.begin(0, 1, 0, 1, 100), -2);
        Due.is("6 p too", x.begin(0, 1, 1, 1, 100), -1);
        Due.is("6 q too", x.begin(0, 1, 0, 0, 100), -1);
        Due.is("6 q too", x.begin(0, 1, 0, 10, 100), -1);
        Due.is("6 sure too", x.begin(0, 1, 0, 1, 50), -1);
        Due.is("6 sure too", x.begin(0, 1, 0, 1, 101), -1);
    }

    /** '(nothing is begun)': neither where there was a search nor where there was none. */
    private static void promise6GoodBeginsNothing() {
        CulpritSearch x = Graphs.chain(5, 2);
        x.good(0, 1);
        x.good(1, 1);
        x.begin(0, 4, 1, 3, 90);
        x.answer(0, PASSED);
        String before = Graphs.seen(x, 5, 2);
        for (int target = 0; target < 2; target++) {
            Due.is("6 bad in a good one", x.begin(target, 1, 0, 1, 100), -2);
            Due.is("6 bad in what a good one has", x.begin(target, 0, 0, 1, 100), -2);
        }
        Due.is("6 nothing is begun", Graphs.seen(x, 5, 2).equals(before), true);
        Due.is("6 there was none, and is none", x.stop(1), false);
        Due.is("6 there was one, and is one", x.stop(0), true);
    }

    /** '(anew, if there is one: its answers are forgotten)'. */
    private static void promise6Anew() {
        CulpritSearch x = Graphs.chain(8, 2);
        x.begin(0, 7, 1, 3, 90);
        x.begin(1, 7, 1, 3, 90);
        x.answer(0, PASSED);
        x.answer(1, PASSED);
        x.answer(0, UNBUILDABLE);
        Due.is("6 anew", x.begin(0, 6, 4, 5, 60), 7);
        Due.is("6 no answers", x.counted(0, 0), 0);
        Due.is("6 the new bad one", x.counted(0, 3), 6);
        for (int i = 0; i < 8; i++) {
            Due.is("6 weight of " + i, x.weight(0, i), i <= 6 ? 1 : 0);
        }
        Due.is("6 it skipped as many as before", x.counted(0, 1), 1);
        Due.is("6 as many are built as before", x.counted(0, 2), 1);
        Due.is("6 the other's answers stay", x.counted(1, 0), 1);
        x.answer(0, PASSED);
        Due.is("6 the new q", x.weight(0, 6), 5);
        Due.is("6 the new p", x.weight(0, 0), 4);
    }

    /** Anew from every state, 15 answers and more each time. */
    private static void promise6AnewAfterEveryState() {
        CulpritSearch x = Graphs.chain(2, 1);
        for (int i = 0; i < 3; i++) {
            Due.is("6 begun", x.begin(0, 1, 8, 9, 100), 2);
            Due.is("6 goes on", x.state(0), GOES_ON);
            Graphs.answerAll(x, 0, PASSED, 15);
            Due.is("6 tired", x.state(0), Graphs.TIRED);
        }
        x.begin(0, 1, 0, 1, 100);
        Due.is("6 found", x.answer(0, FAILED), FOUND);
        Due.is("6 found, anew", x.begin(0, 1, 0, 1, 100), 2);
        Due.is("6 found, anew: none is", x.found(0), NONE);
        Due.is("6 stuck", x.answer(0, UNBUILDABLE), Graphs.STUCK);
        Due.is("6 stuck, anew", x.begin(0, 0, 0, 1, 100), 1);
        Due.is("6 stuck, anew: found", x.state(0), FOUND);
    }

    /** 'false if it had none': no such target, not begun, refused, given up already. */
    private static void promise7HadNone() {
        CulpritSearch x = Graphs.chain(5, 2);
        for (int wrong : NO_TARGETS_OF_2) {
            Due.is("7 no target " + wrong, x.stop(wrong), false);
        }
        Due.is("7 not begun", x.stop(0), false);
        x.good(0, 4);
        x.begin(0, 4, 0, 1, 100);
        Due.is("7 begun in vain", x.stop(0), false);
        x.begin(1, 4, 0, 1, 100);
        Due.is("7 only the other one has begun", x.stop(0), false);
        Due.is("7 begun", x.stop(1), true);
        Due.is("7 given up already", x.stop(1), false);
        x.begin(1, 4, 0, 1, 100);
        x.begin(1, 3, 0, 1, 100);
        Due.is("7 begun twice", x.stop(1), true);
        Due.is("7 .. is one search", x.stop(1), false);
    }

    /** 'the TARGET has none': from every state, and each call says so. */
    private static void promise7HasNone() {
        for (int answers = 0; answers <= 3; answers++) {
            CulpritSearch x = Graphs.chain(5, 1);
            x.begin(0, 4, 0, 1, 100);
            Graphs.answerAll(x, 0, FAILED, answers);
            Due.is("7 stop", x.stop(0), true);
            Due.is("7 state", x.state(0), NONE);
            Due.is("7 next", x.next(0), NONE);
            Due.is("7 answer", x.answer(0, PASSED), NONE);
            Due.is("7 can't be built", x.answer(0, UNBUILDABLE), NONE);
            Due.is("7 total", x.total(0), 0);
            Due.is("7 found", x.found(0), NONE);
            for (int i = 0; i < 5; i++) {
                Due.is("7 weight of " + i, x.weight(0, i), 0);
                Due.is("7 part of " + i, x.part(0, i), 0);
                Due.is("7 told " + i, x.told(0, i), NONE);
                Due.is("7 way " + i, x.way(0, i), NONE);
            }
            Due.is("7 answers", x.counted(0, 0), NONE);
            Due.is("7 skipped", x.counted(0, 1), 0);
            Due.is("7 bad", x.counted(0, 3), NONE);
        }
    }

    /** What is given up is the search alone: not what is good, skipped or built, nor another's. */
    private static void promise7KeepsTheRest() {
        CulpritSearch x = Graphs.chain(6, 2);
        x.good(0, 0);
        x.begin(0, 5, 1, 3, 100);
        x.begin(1, 5, 1, 3, 100);
        x.answer(0, UNBUILDABLE);
        x.answer(0, PASSED);
        x.answer(1, PASSED);
        long total = x.total(1);
        x.stop(0);
        Due.is("7 still good", x.good(0, 0), 0);
        Due.is("7 still skipped", x.counted(0, 1), 1);
        Due.is("7 still built, which made the other one ask it too", x.counted(0, 2), 1);
        Due.is("7 the other one goes on", x.state(1), GOES_ON);
        Due.is("7 the other's weights", x.total(1), total);
        Due.is("7 begun again", x.begin(0, 5, 1, 3, 100), 5);
        Due.is("7 begun again: no answers", x.counted(0, 0), 0);
        Due.is("7 begun again: its weights", x.total(0), 5);
    }
}
