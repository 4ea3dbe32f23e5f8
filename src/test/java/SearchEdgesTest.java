/** Promises 8 to 17: each sentence that names a boundary, at the boundary and on both sides of it. */
public final class SearchEdgesTest {
    private static final int NONE = Graphs.NONE;
    private static final int LEAST = Graphs.LEAST;
    private static final int MOST = Graphs.MOST;
    private static final int PASSED = Graphs.PASSED;
    private static final int FAILED = Graphs.FAILED;
    private static final int UNBUILDABLE = Graphs.UNBUILDABLE;
    private static final int GOES_ON = Graphs.GOES_ON;
    private static final int FOUND = Graphs.FOUND;
    private static final int STUCK = Graphs.STUCK;
    private static final int TIRED = Graphs.TIRED;
    private static final int[] NO_CHANGES_OF_5 = {-1, -2, 5, 6, 39, 40, 41, 63, 64, 65, 66, 128, LEAST, LEAST + 1, MOST - 1, MOST};
    // Target 1 is there, but nothing is searched for it.
    private static final int[] NO_SEARCHES_BUT_0 = {-1, -2, 1, 2, 3, 4, 5, 32, 64, LEAST, LEAST + 1, MOST - 1, MOST};

    private SearchEdgesTest() {
    }

    public static void main(String[] args) {
        promise8NoneIfThereIsNone();
        promise8EveryState();
        promise8AsksWithoutAnEffect();
        promise9NoneIfThereIsNoSearch();
        promise9NoneIfItDoesntGoOn();
        promise10NoNextWithoutASearch();
        promise10NoNextIfItDoesntGoOn();
        promise10NoSuchAnswer();
        promise10WhatTheSearchIsThen();
        promise10Skipped();
        promise11ZeroWithoutASearch();
        promise11ZeroIfNoneSuch();
        promise12ZeroLikewise();
        promise13ZeroWithoutASearch();
        promise14NoneOtherwise();
        promise15FirstAndLast();
        promise15OfLikeOnesTheLesser();
        promise15NoneIfThereIsNoneSuch();
        promise16NoneBeyond();
        promise16TheLongestWay();
        promise16NoneIfNoneWasFound();
        promise16TheParentWithTheLeastNumber();
        promise17Answers();
        promise17Skipped();
        promise17Built();
        promise17BuiltNeedsNoTarget();
        promise17Bad();
        promise17AnotherWhat();
        promise17NoneSuch();
        promise17WithoutASearch();
        Due.end();
    }

    /** Five changes in a row and two targets, the first of which is searched for, from 4 on. */
    private static CulpritSearch searching() {
        CulpritSearch x = Graphs.chain(5, 2);
        x.begin(0, 4, 1, 3, 100);
        return x;
    }

    /** Five changes in a row and two targets, the first with a search of that state. */
    private static CulpritSearch inState(int state) {
        CulpritSearch x = Graphs.chain(5, 2);
        x.begin(0, 4, 8, 9, state == FOUND ? 51 : 100);
        if (state == FOUND) {
            x.answer(0, FAILED);
            x.answer(0, PASSED);
            x.answer(0, PASSED);
        } else if (state == STUCK) {
            Graphs.answerAll(x, 0, UNBUILDABLE, 4);
        } else if (state == TIRED) {
            Graphs.answerAll(x, 0, PASSED, 15);
        }
        Due.is("the search is in the state " + state, x.state(0), state);
        return x;
    }

    /** 'NONE if there is none': no target, not begun, given up. */
    private static void promise8NoneIfThereIsNone() {
        CulpritSearch x = searching();
        Due.is("8 a search", x.state(0), GOES_ON);
        for (int none : NO_SEARCHES_BUT_0) {
            Due.is("8 no search " + none, x.state(none), NONE);
        }
        x.stop(0);
        Due.is("8 given up", x.state(0), NONE);
        Due.is("8 begun", x.begin(1, 4, 0, 1, 100), 5);
        Due.is("8 begun", x.state(1), GOES_ON);
    }

    /** 'What a SEARCH is (0 to 3)'. */
    private static void promise8EveryState() {
        for (int state = 0; state <= 3; state++) {
            CulpritSearch x = inState(state);
            Due.is("8 the other one has none", x.state(1), NONE);
            x.begin(1, 0, 0, 1, 100);
            Due.is("8 the other one is found", x.state(1), FOUND);
            Due.is("8 this one is as it was", x.state(0), state);
        }
    }

    /** No question changes what is asked. */
    private static void promise8AsksWithoutAnEffect() {
        for (int state = 0; state <= 3; state++) {
            CulpritSearch x = inState(state);
            String before = Graphs.seen(x, 6, 2);
            Due.is("8 asked twice, in state " + state, Graphs.seen(x, 6, 2).equals(before), true);
        }
    }

    /** 'NONE if there is no SEARCH'. */
    private static void promise9NoneIfThereIsNoSearch() {
        CulpritSearch x = searching();
        Due.is("9 a search", x.next(0), 1);
        for (int none : NO_SEARCHES_BUT_0) {
            Due.is("9 no search " + none, x.next(none), NONE);
        }
        x.stop(0);
        Due.is("9 given up", x.next(0), NONE);
        x.begin(0, 4, 1, 3, 100);
        Due.is("9 begun again", x.next(0), 1);
    }

    /** 'or it doesn't go on': found or tired has none, though some change would part the weights. */
    private static void promise9NoneIfItDoesntGoOn() {
        for (int state = 0; state <= 3; state++) {
            CulpritSearch x = inState(state);
            Due.is("9 in state " + state, x.next(0), state == GOES_ON ? 1 : NONE);
            boolean parted = 0 < x.part(0, 0) && x.part(0, 0) < x.total(0);
            Due.is("9 0 would part it in state " + state, parted, true);
        }
    }

    /** 'NONE if there is no NEXT': no search. */
    private static void promise10NoNextWithoutASearch() {
        CulpritSearch x = searching();
        String before = Graphs.seen(x, 5, 2);
        for (int none : NO_SEARCHES_BUT_0) {
            for (int outcome = -1; outcome <= 3; outcome++) {
                Due.is("10 no search " + none, x.answer(none, outcome), NONE);
            }
        }
        Due.is("10 a refused answer changes nothing", Graphs.seen(x, 5, 2).equals(before), true);
        x.stop(0);
        Due.is("10 given up", x.answer(0, PASSED), NONE);
        Due.is("10 given up: nothing is built", x.counted(0, 2), 0);
        Due.is("10 given up", x.answer(0, UNBUILDABLE), NONE);
        Due.is("10 given up: nothing is skipped", x.counted(0, 1), 0);
    }

    /** 'NONE if there is no NEXT': found, stuck or tired; and nothing is changed by it. */
    private static void promise10NoNextIfItDoesntGoOn() {
        for (int state = 1; state <= 3; state++) {
            CulpritSearch x = inState(state);
            String before = Graphs.seen(x, 5, 2);
            for (int outcome = -1; outcome <= 3; outcome++) {
                Due.is("10 in state " + state + ", outcome " + outcome, x.answer(0, outcome), NONE);
            }
            Due.is("10 changes nothing in state " + state, Graphs.seen(x, 5, 2).equals(before), true);
        }
    }

    /** 'or no such answer': 0, 1 and 2 are, -1 and 3 aren't. */
    private static void promise10NoSuchAnswer() {
        CulpritSearch x = searching();
        String before = Graphs.seen(x, 5, 2);
        for (int outcome : new int[] {-1, -2, 3, 4, 5, 256, LEAST, LEAST + 2, MOST}) {
            Due.is("10 no such answer " + outcome, x.answer(0, outcome), NONE);
        }
        Due.is("10 no such answer changes nothing", Graphs.seen(x, 5, 2).equals(before), true);
        for (int outcome = 0; outcome <= 2; outcome++) {
            Due.is("10 outcome " + outcome, searching().answer(0, outcome), GOES_ON);
        }
    }

    /** 'what the SEARCH is then': each state that an answer can lead to. */
    private static void promise10WhatTheSearchIsThen() {
        CulpritSearch x = Graphs.chain(3, 1);
        x.begin(0, 2, 0, 1, 100);
        Due.is("10 goes on", x.answer(0, PASSED), GOES_ON);
        Due.is("10 found", x.answer(0, PASSED), FOUND);
        x.begin(0, 2, 0, 1, 100);
        Due.is("10 found by a failure", x.answer(0, FAILED), FOUND);
        x.begin(0, 1, 8, 9, 100);
        Graphs.answerAll(x, 0, PASSED, 14);
        Due.is("10 tired", x.answer(0, PASSED), TIRED);
        x.begin(0, 1, 8, 9, 100);
        Due.is("10 stuck", x.answer(0, UNBUILDABLE), STUCK);
        x.begin(0, 2, 0, 1, 100);
        Due.is("10 stuck by an answer: only 0, which is skipped, would part 0 and 1", x.answer(0, FAILED), STUCK);
    }

    /** 'can't be built (2: it is SKIPPED)': no answer, no build, no weight. */
    private static void promise10Skipped() {
        CulpritSearch x = searching();
        Due.is("10 next", x.next(0), 1);
        Due.is("10 skipped", x.answer(0, UNBUILDABLE), GOES_ON);
        Due.is("10 it isn't next", x.next(0), 2);
        Due.is("10 no weight changed", x.weight(0, 1), 1);
        Due.is("10 no weight changed", x.total(0), 5);
        Due.is("10 no answer", x.counted(0, 0), 0);
        Due.is("10 one skipped", x.counted(0, 1), 1);
        Due.is("10 none built", x.counted(0, 2), 0);
        x.answer(0, PASSED);
        Due.is("10 passed in 2: 1 1 1 3 3", x.total(0), 9);
        Due.is("10 one answer", x.counted(0, 0), 1);
        Due.is("10 one built", x.counted(0, 2), 1);
    }

    /** '0 if there is no SEARCH'. */
    private static void promise11ZeroWithoutASearch() {
        CulpritSearch x = searching();
        Due.is("11 a search", x.weight(0, 0), 1);
        for (int none : NO_SEARCHES_BUT_0) {
            Due.is("11 no search " + none, x.weight(none, 0), 0);
        }
        x.answer(0, PASSED);
        x.stop(0);
        for (int i = 0; i < 5; i++) {
            Due.is("11 given up: " + i, x.weight(0, i), 0);
        }
        x.begin(1, 0, 0, 1, 100);
        Due.is("11 begun", x.weight(1, 0), 1);
    }

    /** 'or none such'. */
    private static void promise11ZeroIfNoneSuch() {
        CulpritSearch x = searching();
        for (int wrong : NO_CHANGES_OF_5) {
            Due.is("11 no change " + wrong, x.weight(0, wrong), 0);
        }
        Due.is("11 the first", x.weight(0, 0), 1);
        Due.is("11 the last", x.weight(0, 4), 1);
        x.change(4, NONE, NONE);
        Due.is("11 one behind the bad one", x.weight(0, 5), 0);
        x.begin(0, 5, 1, 3, 100);
        Due.is("11 bad itself", x.weight(0, 5), 1);
    }

    /** '0 likewise'. */
    private static void promise12ZeroLikewise() {
        CulpritSearch x = searching();
        for (int wrong : NO_CHANGES_OF_5) {
            Due.is("12 no change " + wrong, x.part(0, wrong), 0);
        }
        for (int none : NO_SEARCHES_BUT_0) {
            Due.is("12 no search " + none, x.part(none, 4), 0);
        }
        Due.is("12 the first", x.part(0, 0), 1);
        Due.is("12 the last", x.part(0, 4), 5);
        Due.is("12 not there", x.part(0, 5), 0);
        x.change(4, NONE, NONE);
        Due.is("12 one behind the bad one", x.part(0, 5), 5);
        x.stop(0);
        for (int i = 0; i < 6; i++) {
            Due.is("12 given up: " + i, x.part(0, i), 0);
        }
    }

    /** '0 without a SEARCH'. */
    private static void promise13ZeroWithoutASearch() {
        CulpritSearch x = searching();
        Due.is("13 a search", x.total(0), 5);
        for (int none : NO_SEARCHES_BUT_0) {
            Due.is("13 no search " + none, x.total(none), 0);
        }
        x.begin(0, 0, 0, 1, 100);
        Due.is("13 the least", x.total(0), 1);
        x.stop(0);
        Due.is("13 given up", x.total(0), 0);
    }

    /** 'NONE otherwise': no search, or one that goes on, is stuck or is tired. */
    private static void promise14NoneOtherwise() {
        for (int state = 0; state <= 3; state++) {
            CulpritSearch x = inState(state);
            Due.is("14 in state " + state, x.found(0), state == FOUND ? 1 : NONE);
            for (int none : NO_SEARCHES_BUT_0) {
                Due.is("14 no search " + none, x.found(none), NONE);
            }
            x.stop(0);
            Due.is("14 given up", x.found(0), NONE);
        }
        CulpritSearch x = Graphs.chain(40, 1);
        Due.is("14 only the first may be it", x.begin(0, 0, 0, 1, 100), 1);
        Due.is("14 the first is found", x.found(0), 0);
        x.stop(0);
        x.good(0, 38);
        Due.is("14 only the last may be it", x.begin(0, 39, 0, 1, 100), 1);
        Due.is("14 the last is found", x.found(0), 39);
    }

    /** 'the greatest WEIGHT first': the first and the last of all 40. */
    private static void promise15FirstAndLast() {
        CulpritSearch x = Graphs.chain(40, 1);
        x.begin(0, 39, 1, 2, 100);
        Due.is("15 next", x.next(0), 19);
        x.answer(0, PASSED);
        for (int k = 0; k < 40; k++) {
            Due.is("15 passed in 19: told " + k, x.told(0, k), k < 20 ? 20 + k : k - 20);
        }
        Due.is("15 none beyond", x.told(0, 40), NONE);
        Due.is("15 none before", x.told(0, -1), NONE);
    }

    /** 'of like ones the lesser number'. */
    private static void promise15OfLikeOnesTheLesser() {
        CulpritSearch x = Graphs.roots(4, 1);
        x.change(3, 1, NONE);
        x.change(4, 2, 0);
        x.begin(0, 5, 1, 2, 100);
        for (int k = 0; k < 6; k++) {
            Due.is("15 all are like: told " + k, x.told(0, k), k);
        }
        Due.is("15 next", x.next(0), 4);
        x.answer(0, PASSED);
        int[] due = {0, 2, 5, 1, 3, 4};
        for (int k = 0; k < 6; k++) {
            Due.is("15 passed in 4: told " + k, x.told(0, k), due[k]);
        }
    }

    /** 'NONE if there is none such': k, a search, or a weight. */
    private static void promise15NoneIfThereIsNoneSuch() {
        CulpritSearch x = searching();
        for (int wrong : NO_CHANGES_OF_5) {
            Due.is("15 no k " + wrong, x.told(0, wrong), NONE);
        }
        for (int none : NO_SEARCHES_BUT_0) {
            Due.is("15 no search " + none, x.told(none, 0), NONE);
        }
        Due.is("15 the first", x.told(0, 0), 0);
        Due.is("15 the last", x.told(0, 4), 4);
        Due.is("15 next", x.next(0), 1);
        x.answer(0, FAILED);
        Due.is("15 0 and 1 are left", x.told(0, 1), 1);
        Due.is("15 none beyond", x.told(0, 2), NONE);
        x.answer(0, FAILED);
        Due.is("15 0 is left", x.told(0, 0), 0);
        Due.is("15 none beyond", x.told(0, 1), NONE);
        x.stop(0);
        Due.is("15 given up", x.told(0, 0), NONE);
    }

    /** 'NONE beyond': behind the culprit, and before the bad one. */
    private static void promise16NoneBeyond() {
        CulpritSearch x = inState(FOUND);
        int[] due = {4, 3, 2, 1, NONE, NONE};
        for (int k = 0; k < due.length; k++) {
            Due.is("16 from 4 to 1, step " + k, x.way(0, k), due[k]);
        }
        for (int wrong : NO_CHANGES_OF_5) {
            Due.is("16 no k " + wrong, x.way(0, wrong), NONE);
        }
        x.stop(0);
        x.good(0, 3);
        x.begin(0, 4, 0, 1, 100);
        Due.is("16 the bad one is it", x.way(0, 0), 4);
        Due.is("16 and no step more", x.way(0, 1), NONE);
        Due.is("16 and none before", x.way(0, -1), NONE);
    }

    /** The way through all 40. */
    private static void promise16TheLongestWay() {
        CulpritSearch x = Graphs.chain(40, 1);
        x.begin(0, 39, 0, 1, 100);
        Graphs.answerAll(x, 0, FAILED, 6);
        Due.is("16 the first is it", x.found(0), 0);
        for (int k = 0; k < 40; k++) {
            Due.is("16 step " + k, x.way(0, k), 39 - k);
        }
        Due.is("16 beyond", x.way(0, 40), NONE);
        Due.is("16 beyond", x.way(0, 41), NONE);
    }

    /** 'or if none was FOUND': no search, or one that goes on, is stuck or is tired. */
    private static void promise16NoneIfNoneWasFound() {
        for (int state = 0; state <= 3; state++) {
            CulpritSearch x = inState(state);
            Due.is("16 in state " + state, x.way(0, 0), state == FOUND ? 4 : NONE);
            Due.is("16 in state " + state, x.way(0, 1), state == FOUND ? 3 : NONE);
            for (int none : NO_SEARCHES_BUT_0) {
                Due.is("16 no search " + none, x.way(none, 0), NONE);
            }
            x.stop(0);
            Due.is("16 given up", x.way(0, 0), NONE);
        }
    }

    /** 'from each the PARENT with the least number that HAS it': in whatever place it was named. */
    private static void promise16TheParentWithTheLeastNumber() {
        int[][] places = {{1, 2, 3}, {1, 3, 2}, {2, 1, 3}, {2, 3, 1}, {3, 1, 2}, {3, 2, 1}};
        for (int[] parents : places) {
            CulpritSearch x = new CulpritSearch();
            x.target();
            x.change(NONE, NONE, NONE);
            x.change(NONE, NONE, NONE);
            x.change(0, NONE, NONE);
            x.change(0, 1, NONE);
            x.change(parents[0], parents[1], parents[2]);
            String call = "16 parents " + parents[0] + ", " + parents[1] + ", " + parents[2];
            x.begin(0, 4, 0, 1, 100);
            Due.is(call + ": 2 has 2 of 5, 3 has 3", x.next(0), 2);
            x.answer(0, FAILED);
            x.answer(0, FAILED);
            Due.is(call + ": 0 is it", x.found(0), 0);
            int[] due = {4, 2, 0, NONE};
            for (int k = 0; k < due.length; k++) {
                Due.is(call + ", step " + k, x.way(0, k), due[k]);
            }
        }
    }

    /** '0 how many answers its SEARCH had (those that were SKIPPED aren't)': from 0 to 15. */
    private static void promise17Answers() {
        CulpritSearch x = Graphs.chain(3, 2);
        Due.is("17 without a search", x.counted(0, 0), NONE);
        x.begin(0, 2, 8, 9, 100);
        x.begin(1, 2, 8, 9, 100);
        Due.is("17 none yet", x.counted(0, 0), 0);
        x.answer(0, UNBUILDABLE);
        Due.is("17 skipped isn't answered", x.counted(0, 0), 0);
        for (int i = 1; i <= 15; i++) {
            x.answer(0, PASSED);
            Due.is("17 answer " + i, x.counted(0, 0), i);
        }
        x.answer(0, PASSED);
        Due.is("17 no answer 16", x.counted(0, 0), 15);
        Due.is("17 the other had none", x.counted(1, 0), 0);
        x.answer(1, FAILED);
        Due.is("17 a failure is an answer", x.counted(1, 0), 1);
        Due.is("17 .. of the other", x.counted(0, 0), 15);
        x.begin(0, 2, 8, 9, 100);
        Due.is("17 forgotten", x.counted(0, 0), 0);
    }

    /** '1 how many CHANGES it SKIPPED in all': over all its searches, not another's. */
    private static void promise17Skipped() {
        CulpritSearch x = Graphs.chain(40, 2);
        Due.is("17 without a search", x.counted(0, 1), 0);
        x.begin(0, 39, 0, 1, 100);
        x.begin(1, 39, 0, 1, 100);
        for (int i = 1; i <= 20; i++) {
            x.answer(0, UNBUILDABLE);
            Due.is("17 skipped", x.counted(0, 1), i);
        }
        x.stop(0);
        Due.is("17 given up", x.counted(0, 1), 20);
        x.begin(0, 39, 0, 1, 100);
        Due.is("17 begun again", x.counted(0, 1), 20);
        for (int i = 1; i <= 10; i++) {
            x.answer(1, UNBUILDABLE);
            Due.is("17 skipped by the other one", x.counted(1, 1), i);
        }
        Due.is("17 not by this one", x.counted(0, 1), 20);
        Graphs.answerAll(x, 0, UNBUILDABLE, 12);
        Due.is("17 all but the bad one, by both", x.counted(0, 1), 29);
        Due.is("17 the other's stay", x.counted(1, 1), 10);
        Due.is("17 stuck", x.state(0), STUCK);
    }

    /** '2 how many are BUILT, by all TARGETS': each once. */
    private static void promise17Built() {
        CulpritSearch x = Graphs.chain(5, 3);
        x.begin(0, 4, 0, 1, 100);
        x.begin(1, 4, 0, 1, 100);
        x.begin(2, 4, 0, 1, 100);
        Due.is("17 none", x.counted(0, 2), 0);
        x.answer(0, PASSED);
        Due.is("17 1", x.counted(0, 2), 1);
        x.answer(1, FAILED);
        Due.is("17 1, by two", x.counted(0, 2), 1);
        x.answer(1, FAILED);
        Due.is("17 1 and 0", x.counted(0, 2), 2);
        x.answer(0, PASSED);
        Due.is("17 1, 0 and 2", x.counted(0, 2), 3);
        Due.is("17 built ones can be skipped", x.answer(2, UNBUILDABLE), GOES_ON);
        Due.is("17 .. and stay built", x.counted(0, 2), 3);
        x.stop(0);
        x.stop(1);
        x.stop(2);
        Due.is("17 all given up", x.counted(0, 2), 3);
    }

    /** '(the TARGET doesn't matter, and needn't be there)'. */
    private static void promise17BuiltNeedsNoTarget() {
        CulpritSearch x = searching();
        x.answer(0, PASSED);
        Due.is("17 a target that is there", x.counted(0, 2), 1);
        for (int any : NO_SEARCHES_BUT_0) {
            Due.is("17 whatever target: " + any, x.counted(any, 2), 1);
        }
        Due.is("17 no targets at all", new CulpritSearch().counted(0, 2), 0);
        Due.is("17 no targets at all", new CulpritSearch().counted(NONE, 2), 0);
    }

    /** '3 the BAD one'. */
    private static void promise17Bad() {
        CulpritSearch x = Graphs.chain(40, 2);
        Due.is("17 without a search", x.counted(0, 3), NONE);
        x.begin(0, 0, 0, 1, 100);
        Due.is("17 the first", x.counted(0, 3), 0);
        x.begin(0, 39, 0, 1, 100);
        Due.is("17 the last", x.counted(0, 3), 39);
        x.begin(0, 40, 0, 1, 100);
        Due.is("17 a refused one isn't it", x.counted(0, 3), 39);
        x.begin(1, 20, 0, 1, 100);
        Due.is("17 each has its own", x.counted(0, 3), 39);
        Due.is("17 each has its own", x.counted(1, 3), 20);
        x.stop(0);
        Due.is("17 given up", x.counted(0, 3), NONE);
    }

    /** 'NONE .. for another what'. */
    private static void promise17AnotherWhat() {
        CulpritSearch x = searching();
        x.answer(0, PASSED);
        x.answer(0, UNBUILDABLE);
        int[] due = {NONE, 1, 1, 1, 4, NONE};
        for (int what = -1; what <= 4; what++) {
            Due.is("17 what " + what, x.counted(0, what), due[what + 1]);
        }
        for (int what : new int[] {-2, -3, 5, 6, 256, LEAST, LEAST + 2, MOST}) {
            for (int target = -1; target <= 4; target++) {
                Due.is("17 target " + target + ", what " + what, x.counted(target, what), NONE);
            }
        }
    }

    /** 'NONE if there is none such': of 0, 1 and 3. */
    private static void promise17NoneSuch() {
        CulpritSearch x = searching();
        for (int wrong : NO_SEARCHES_BUT_0) {
            if (wrong == 1) {
                continue;
            }
            Due.is("17 no target " + wrong + ": answers", x.counted(wrong, 0), NONE);
            Due.is("17 no target " + wrong + ": skipped", x.counted(wrong, 1), NONE);
            Due.is("17 no target " + wrong + ": bad", x.counted(wrong, 3), NONE);
        }
        Due.is("17 the last target", x.counted(1, 1), 0);
        x.target();
        Due.is("17 there now", x.counted(2, 1), 0);
    }

    /** 'or of 0 and 3 without a SEARCH': but not of 1 and 2. */
    private static void promise17WithoutASearch() {
        CulpritSearch x = searching();
        x.answer(0, PASSED);
        x.answer(0, UNBUILDABLE);
        int[] begun = {1, 1, 1, 4};
        int[] never = {NONE, 0, 1, NONE};
        int[] givenUp = {NONE, 1, 1, NONE};
        for (int what = 0; what <= 3; what++) {
            Due.is("17 begun: " + what, x.counted(0, what), begun[what]);
            Due.is("17 never begun: " + what, x.counted(1, what), never[what]);
        }
        x.stop(0);
        for (int what = 0; what <= 3; what++) {
            Due.is("17 given up: " + what, x.counted(0, what), givenUp[what]);
        }
    }
}
