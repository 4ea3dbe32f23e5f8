/** Each promise of the document by itself: ordinary inputs, the edges it names, and wrong inputs. */
public final class PromisesTest {
    private static final int NONE = Graphs.NONE;
    private static final int LEAST = Graphs.LEAST;
    private static final int MOST = Graphs.MOST;
    private static final int PASSED = Graphs.PASSED;
    private static final int FAILED = Graphs.FAILED;
    private static final int UNBUILDABLE = Graphs.UNBUILDABLE;

    private PromisesTest() {
    }

    public static void main(String[] args) {
        promise1NewObject();
        promise2Change();
        promise2Limit();
        promise3Has();
        promise4Target();
        promise5Good();
        promise6Begin();
        promise6WrongInputs();
        promise6Anew();
        promise7Stop();
        promise8Found();
        promise8Tired();
        promise8Stuck();
        promise9Next();
        promise9NextIsBuiltFirst();
        promise9NextOutsideTheBadOne();
        promise10Answer();
        promise10WrongInputs();
        promise11Weight();
        promise11GreatWeights();
        promise12Part();
        promise13Total();
        promise14Found();
        promise15Told();
        promise16Way();
        promise17Counted();
        Due.end();
    }

    private static void promise1NewObject() {
        Due.is("NONE", CulpritSearch.NONE, -1);
        CulpritSearch x = new CulpritSearch();
        Due.is("1 has", x.has(0, 0), false);
        Due.is("1 change with a parent", x.change(0, NONE, NONE), NONE);
        Due.is("1 good", x.good(0, 0), -1);
        Due.is("1 begin", x.begin(0, 0, 0, 1, 100), -1);
        Due.is("1 state", x.state(0), NONE);
        Due.is("1 next", x.next(0), NONE);
        Due.is("1 total", x.total(0), 0);
        Due.is("1 counted 1", x.counted(0, 1), NONE);
        Due.is("1 counted 2", x.counted(0, 2), 0);
        Due.is("1 target", x.target(), 0);
        Due.is("1 change", x.change(NONE, NONE, NONE), 0);
        CulpritSearch other = new CulpritSearch();
        Due.is("1 another object's change", other.change(NONE, NONE, NONE), 0);
        Due.is("1 another object's target", other.target(), 0);
    }

    private static void promise2Change() {
        CulpritSearch x = new CulpritSearch();
        Due.is("2 first", x.change(NONE, NONE, NONE), 0);
        Due.is("2 second root", x.change(NONE, NONE, NONE), 1);
        Due.is("2 parent b", x.change(NONE, 1, NONE), 2);
        Due.is("2 parent c", x.change(NONE, NONE, 0), 3);
        Due.is("2 three parents", x.change(3, 2, 1), 4);
        Due.is("2 the same thrice", x.change(4, 4, 4), 5);
        for (int wrong : new int[] {6, 7, -2, 39, 40, 64, LEAST, MOST}) {
            Due.is("2 no such a: " + wrong, x.change(wrong, NONE, NONE), NONE);
            Due.is("2 no such b: " + wrong, x.change(0, wrong, NONE), NONE);
            Due.is("2 no such c: " + wrong, x.change(0, 1, wrong), NONE);
        }
        Due.is("2 refused ones take no number", x.change(5, NONE, NONE), 6);
    }

    private static void promise2Limit() {
        CulpritSearch x = new CulpritSearch();
        for (int i = 0; i < 40; i++) {
            Due.is("2 change " + i, x.change(i - 1, NONE, NONE), i);
        }
        Due.is("2 the 41st", x.change(NONE, NONE, NONE), NONE);
        Due.is("2 the 41st with a parent", x.change(39, NONE, NONE), NONE);
        Due.is("2 the last has the first", x.has(39, 0), true);
        Due.is("2 there is no 40", x.has(40, 0), false);
    }

    private static void promise3Has() {
        CulpritSearch x = new CulpritSearch();
        x.change(NONE, NONE, NONE);
        x.change(NONE, NONE, NONE);
        x.change(NONE, NONE, NONE);
        x.change(0, NONE, NONE);
        x.change(3, 1, NONE);
        x.change(NONE, 4, 2);
        Due.is("3 itself", x.has(2, 2), true);
        Due.is("3 a parent", x.has(3, 0), true);
        Due.is("3 a parent's parent", x.has(4, 0), true);
        Due.is("3 by b", x.has(5, 0), true);
        Due.is("3 by c", x.has(5, 2), true);
        Due.is("3 not a child", x.has(0, 3), false);
        Due.is("3 not one beside it", x.has(4, 2), false);
        Due.is("3 roots", x.has(1, 0), false);
        for (int wrong : new int[] {-1, -2, 6, 39, 40, 64, 69, LEAST, MOST}) {
            Due.is("3 no such change " + wrong, x.has(wrong, 0), false);
            Due.is("3 no such other " + wrong, x.has(5, wrong), false);
            Due.is("3 neither " + wrong, x.has(wrong, wrong), false);
        }
    }

    private static void promise4Target() {
        CulpritSearch x = new CulpritSearch();
        for (int i = 0; i < 4; i++) {
            Due.is("4 target", x.target(), i);
        }
        Due.is("4 the fifth", x.target(), NONE);
        Due.is("4 the sixth", x.target(), NONE);
        Due.is("4 the fourth is there", x.counted(3, 1), 0);
        Due.is("4 there is no fifth", x.counted(4, 1), NONE);
    }

    private static void promise5Good() {
        CulpritSearch x = Graphs.chain(6, 2);
        Due.is("5 good", x.good(0, 3), 1);
        Due.is("5 already", x.good(0, 3), 0);
        Due.is("5 what a good one has isn't known by itself", x.good(0, 1), 1);
        Due.is("5 another target's", x.good(1, 3), 1);
        for (int wrong : new int[] {-1, -2, 2, 3, 4, 64, LEAST, MOST}) {
            Due.is("5 no such target " + wrong, x.good(wrong, 0), -1);
        }
        for (int wrong : new int[] {-1, -2, 6, 39, 40, 64, 67, LEAST, MOST}) {
            Due.is("5 no such change " + wrong, x.good(0, wrong), -1);
        }
        Due.is("5 begin", x.begin(0, 5, 0, 1, 100), 2);
        Due.is("5 begun", x.good(0, 0), -1);
        Due.is("5 begun, already", x.good(0, 3), -1);
        Due.is("5 the other one hasn't begun", x.good(1, 0), 1);
        x.stop(0);
        Due.is("5 stopped, still known", x.good(0, 3), 0);
        Due.is("5 stopped", x.good(0, 4), 1);
        Due.is("5 one is left", x.begin(0, 5, 0, 1, 100), 1);
    }

    private static void promise6Begin() {
        CulpritSearch x = Graphs.chain(10, 2);
        x.change(2, NONE, NONE);
        Due.is("6 all of them", x.begin(0, 9, 0, 1, 100), 10);
        Due.is("6 some", x.begin(0, 4, 0, 1, 100), 5);
        Due.is("6 the first alone", x.begin(0, 0, 0, 1, 100), 1);
        x.good(1, 10);
        Due.is("6 good beside the bad one", x.begin(1, 9, 0, 1, 100), 7);
        x.stop(1);
        x.good(1, 6);
        Due.is("6 several good ones", x.begin(1, 9, 0, 1, 100), 3);
        Due.is("6 the bad one is good", x.begin(1, 6, 0, 1, 100), -2);
        Due.is("6 a good one has the bad one", x.begin(1, 1, 0, 1, 100), -2);
        Due.is("6 a good one has the bad one", x.begin(1, 10, 0, 1, 100), -2);
        Due.is("6 another target's good ones don't count", x.begin(0, 6, 0, 1, 100), 7);
        Due.is("6 wrong flake before good", x.begin(1, 6, 1, 1, 100), -1);
        Due.is("6 wrong sure before good", x.begin(1, 6, 0, 1, 50), -1);
    }

    private static void promise6WrongInputs() {
        CulpritSearch x = Graphs.chain(3, 2);
        for (int wrong : new int[] {-1, -2, 2, 4, 64, LEAST, MOST}) {
            Due.is("6 no such target " + wrong, x.begin(wrong, 2, 0, 1, 100), -1);
        }
        for (int wrong : new int[] {-1, -2, 3, 39, 40, 64, 66, LEAST, MOST}) {
            Due.is("6 no such change " + wrong, x.begin(0, wrong, 0, 1, 100), -1);
        }
        for (int wrong : new int[] {0, -1, 10, 11, LEAST, MOST}) {
            Due.is("6 q " + wrong, x.begin(0, 2, 0, wrong, 100), -1);
        }
        for (int wrong : new int[] {-1, 9, 10, LEAST, MOST}) {
            Due.is("6 p " + wrong, x.begin(0, 2, wrong, 9, 100), -1);
        }
        for (int wrong : new int[] {50, 0, -51, 101, LEAST, MOST}) {
            Due.is("6 sure " + wrong, x.begin(0, 2, 0, 1, wrong), -1);
        }
        Due.is("6 p isn't below q", x.begin(0, 2, 1, 1, 100), -1);
        Due.is("6 nothing is begun", x.state(0), NONE);
        Due.is("6 least", x.begin(0, 2, 0, 1, 51), 3);
        Due.is("6 greatest", x.begin(0, 2, 8, 9, 100), 3);
    }

    private static void promise6Anew() {
        CulpritSearch x = Graphs.chain(8, 1);
        x.begin(0, 7, 1, 3, 90);
        x.answer(0, PASSED);
        x.answer(0, UNBUILDABLE);
        long total = x.total(0);
        Due.is("6 a refused one", x.begin(0, 7, 3, 3, 90), -1);
        Due.is("6 .. leaves the search", x.total(0), total);
        Due.is("6 .. and its answers", x.counted(0, 0), 1);
        Due.is("6 anew", x.begin(0, 6, 2, 5, 60), 7);
        Due.is("6 answers are forgotten", x.counted(0, 0), 0);
        Due.is("6 weights are as at first", x.total(0), 7);
        Due.is("6 the bad one is the new one", x.counted(0, 3), 6);
        Due.is("6 what was skipped isn't forgotten", x.counted(0, 1), 1);
        Due.is("6 what was built isn't forgotten", x.counted(0, 2), 1);
        x.stop(0);
        x.good(0, 2);
        x.begin(0, 7, 0, 1, 100);
        Due.is("6 a good one has the bad one", x.begin(0, 1, 0, 1, 100), -2);
        Due.is("6 nothing is begun", x.counted(0, 3), 7);
        Due.is("6 nothing is begun", x.total(0), 5);
    }

    private static void promise7Stop() {
        CulpritSearch x = Graphs.chain(4, 2);
        Due.is("7 not begun", x.stop(0), false);
        for (int wrong : new int[] {-1, 2, 4, LEAST, MOST}) {
            Due.is("7 no such target", x.stop(wrong), false);
        }
        x.begin(0, 3, 0, 1, 100);
        x.begin(1, 3, 0, 1, 100);
        Due.is("7 stop", x.stop(0), true);
        Due.is("7 again", x.stop(0), false);
        Due.is("7 state", x.state(0), NONE);
        Due.is("7 next", x.next(0), NONE);
        Due.is("7 answer", x.answer(0, PASSED), NONE);
        Due.is("7 weight", x.weight(0, 1), 0);
        Due.is("7 part", x.part(0, 1), 0);
        Due.is("7 total", x.total(0), 0);
        Due.is("7 told", x.told(0, 0), NONE);
        Due.is("7 the other one goes on", x.state(1), 0);
        Due.is("7 begin again", x.begin(0, 3, 0, 1, 100), 4);
        x.begin(0, 0, 0, 1, 100);
        Due.is("7 a search that found can be given up", x.stop(0), true);
        Due.is("7 .. and has found nothing then", x.found(0), NONE);
        Due.is("7 .. nor a way", x.way(0, 0), NONE);
    }

    private static void promise8Found() {
        CulpritSearch x = Graphs.chain(2, 1);
        for (int wrong : new int[] {-1, 0, 1, 4, LEAST, MOST}) {
            Due.is("8 no search", x.state(wrong), NONE);
        }
        x.begin(0, 0, 0, 1, 100);
        Due.is("8 only one may be it", x.state(0), 1);
        x.begin(0, 1, 0, 1, 51);
        Due.is("8 a half isn't enough", x.state(0), 0);
        // One pass of 1 of 3 makes the weights 1 and 3: 75 hundredths.
        x.begin(0, 1, 1, 3, 75);
        Due.is("8 just sure", x.answer(0, PASSED), 1);
        Due.is("8 just sure", x.state(0), 1);
        x.begin(0, 1, 1, 3, 76);
        Due.is("8 just not sure", x.answer(0, PASSED), 0);
        Due.is("8 just not sure", x.state(0), 0);
        x.begin(0, 1, 8, 9, 100);
        for (int i = 0; i < 14; i++) {
            x.answer(0, PASSED);
        }
        Due.is("8 found by the 15th comes before tired", x.answer(0, FAILED), 1);
        Due.is("8 .. 15 answers", x.counted(0, 0), 15);
    }

    private static void promise8Tired() {
        CulpritSearch x = Graphs.chain(3, 2);
        x.begin(0, 1, 8, 9, 100);
        for (int i = 0; i < 14; i++) {
            Due.is("8 goes on", x.answer(0, PASSED), 0);
        }
        Due.is("8 14 answers", x.state(0), 0);
        Due.is("8 15 answers", x.answer(0, PASSED), 3);
        Due.is("8 tired", x.state(0), 3);
        Due.is("8 tired has no next", x.next(0), NONE);
        Due.is("8 tired takes no answer", x.answer(0, PASSED), NONE);
        Due.is("8 tired isn't skipping", x.answer(0, UNBUILDABLE), NONE);
        x.begin(1, 1, 0, 1, 100);
        Due.is("8 the other one skips 0, the only one that parts them", x.answer(1, UNBUILDABLE), 2);
        Due.is("8 tired comes before stuck", x.state(0), 3);
        x.begin(0, 1, 8, 9, 100);
        Due.is("8 anew it is stuck", x.state(0), 2);
        CulpritSearch y = Graphs.chain(20, 1);
        y.begin(0, 19, 0, 1, 100);
        for (int i = 0; i < 16; i++) {
            Due.is("8 skipping doesn't tire", y.answer(0, UNBUILDABLE), 0);
        }
    }

    private static void promise8Stuck() {
        CulpritSearch x = Graphs.chain(2, 2);
        x.begin(0, 1, 0, 1, 100);
        x.begin(1, 1, 0, 1, 100);
        Due.is("8 stuck", x.answer(0, UNBUILDABLE), 2);
        Due.is("8 stuck", x.state(0), 2);
        Due.is("8 stuck by what the other one skipped", x.state(1), 2);
        Due.is("8 stuck has no next", x.next(1), NONE);
        Due.is("8 stuck takes no answer", x.answer(1, PASSED), NONE);
        x.stop(0);
        Due.is("8 skipped though its search is given up", x.state(1), 2);
        Due.is("8 a new change", x.change(0, NONE, NONE), 2);
        Due.is("8 as by now it goes on", x.state(1), 0);
        Due.is("8 .. with the new one", x.next(1), 2);
        Due.is("8 failed there: it is 0", x.answer(1, FAILED), 1);
        Due.is("8 found", x.found(1), 0);
    }

    private static void promise9Next() {
        CulpritSearch x = Graphs.chain(9, 2);
        for (int wrong : new int[] {-1, 0, 2, 4, LEAST, MOST}) {
            Due.is("9 no search", x.next(wrong), NONE);
        }
        x.begin(0, 7, 0, 1, 100);
        Due.is("9 the middle", x.next(0), 3);
        Due.is("9 it stays", x.next(0), 3);
        x.begin(0, 8, 0, 1, 100);
        Due.is("9 of like ones the lesser", x.next(0), 3);
        x.begin(0, 2, 0, 1, 100);
        Due.is("9 of like ones the lesser", x.next(0), 0);
        x.begin(0, 7, 0, 1, 100);
        x.answer(0, UNBUILDABLE);
        Due.is("9 3 is skipped: 2 and 4 are like", x.next(0), 2);
        x.begin(1, 7, 0, 1, 100);
        Due.is("9 skipped by another target", x.next(1), 2);
        x.answer(1, UNBUILDABLE);
        Due.is("9 2 is skipped too, and 3 still", x.next(1), 4);
        x.begin(0, 7, 0, 1, 100);
        Due.is("9 skipped though begun anew", x.next(0), 4);
        x.begin(0, 0, 0, 1, 100);
        Due.is("9 found", x.next(0), NONE);
    }

    private static void promise9NextIsBuiltFirst() {
        CulpritSearch x = Graphs.chain(4, 2);
        x.good(1, 1);
        x.begin(0, 2, 0, 1, 100);
        Due.is("9 0 and 1 are like", x.next(0), 0);
        x.begin(1, 3, 0, 1, 100);
        Due.is("9 the other one asks 2", x.next(1), 2);
        x.answer(1, PASSED);
        Due.is("9 2 has all: it doesn't matter", x.next(0), 0);
        x.stop(1);
        CulpritSearch y = Graphs.chain(3, 2);
        y.good(1, 0);
        y.begin(0, 2, 0, 1, 100);
        y.begin(1, 2, 0, 1, 100);
        Due.is("9 0 and 1 are like", y.next(0), 0);
        Due.is("9 the other one asks 1", y.next(1), 1);
        Due.is("9 asked isn't built", y.next(0), 0);
        y.answer(1, PASSED);
        Due.is("9 of like ones the one that is built", y.next(0), 1);
        y.stop(1);
        Due.is("9 built though the search is given up", y.next(0), 1);
        y.change(2, NONE, NONE);
        y.change(3, NONE, NONE);
        y.begin(0, 4, 0, 1, 100);
        Due.is("9 1 and 2 are like, 1 is lesser and built", y.next(0), 1);
        y.begin(0, 3, 8, 9, 100);
        Due.is("9 the most even one comes before a built one", y.next(0), 1);
        y.answer(0, UNBUILDABLE);
        Due.is("9 1 is built, but skipped now: 0 and 2 are like", y.next(0), 0);
        Due.is("9 .. and still built", y.counted(0, 2), 1);
    }

    private static void promise9NextOutsideTheBadOne() {
        CulpritSearch x = new CulpritSearch();
        x.change(NONE, NONE, NONE);
        x.change(NONE, NONE, NONE);
        x.change(NONE, NONE, NONE);
        x.change(0, 1, 2);
        x.target();
        x.begin(0, 3, 0, 1, 100);
        Due.is("9 1 of 4 each", x.next(0), 0);
        Due.is("9 a merge that the bad one hasn't", x.change(0, 2, NONE), 4);
        Due.is("9 2 of 4", x.next(0), 4);
        Due.is("9 failed there", x.answer(0, FAILED), 0);
        Due.is("9 .. 1 has no weight", x.weight(0, 1), 0);
        Due.is("9 .. 0 and 2 are left", x.total(0), 2);
        Due.is("9 .. 0 is next", x.next(0), 0);
    }

    private static void promise10Answer() {
        CulpritSearch x = Graphs.chain(8, 2);
        x.begin(0, 7, 0, 1, 100);
        Due.is("10 failed in 3", x.answer(0, FAILED), 0);
        Due.is("10 0 to 3 are left", x.total(0), 4);
        Due.is("10 next is 1", x.next(0), 1);
        Due.is("10 passed in 1", x.answer(0, PASSED), 0);
        Due.is("10 2 and 3 are left", x.total(0), 2);
        Due.is("10 next is 2", x.next(0), 2);
        Due.is("10 failed in 2", x.answer(0, FAILED), 1);
        Due.is("10 it is 2", x.found(0), 2);
        Due.is("10 no next", x.answer(0, FAILED), NONE);
        Due.is("10 three were built", x.counted(0, 2), 3);
        x.begin(1, 7, 1, 2, 100);
        Due.is("10 3 can't be built", x.answer(1, UNBUILDABLE), 0);
        Due.is("10 that is no answer", x.counted(1, 0), 0);
        Due.is("10 .. no weight changes", x.total(1), 8);
        Due.is("10 2 is next", x.next(1), 2);
        Due.is("10 may pass though broken", x.answer(1, PASSED), 0);
        Due.is("10 0 to 2 weigh 1, 3 to 7 weigh 2", x.total(1), 13);
    }

    private static void promise10WrongInputs() {
        CulpritSearch x = Graphs.chain(8, 2);
        Due.is("10 no search", x.answer(0, PASSED), NONE);
        x.begin(0, 7, 0, 1, 100);
        for (int wrong : new int[] {-1, 3, 4, LEAST, MOST}) {
            Due.is("10 no such answer " + wrong, x.answer(0, wrong), NONE);
        }
        for (int wrong : new int[] {-1, 1, 2, 4, LEAST, MOST}) {
            Due.is("10 no search " + wrong, x.answer(wrong, PASSED), NONE);
        }
        Due.is("10 nothing was answered", x.counted(0, 0), 0);
        Due.is("10 nothing was built", x.counted(0, 2), 0);
        Due.is("10 nothing was skipped", x.counted(0, 1), 0);
    }

    private static void promise11Weight() {
        CulpritSearch x = Graphs.chain(5, 2);
        x.change(1, NONE, NONE);
        Due.is("11 no search", x.weight(0, 0), 0);
        x.good(0, 0);
        x.begin(0, 4, 2, 5, 100);
        Due.is("11 a good one has it", x.weight(0, 0), 0);
        Due.is("11 the bad one has it", x.weight(0, 1), 1);
        Due.is("11 the bad one", x.weight(0, 4), 1);
        Due.is("11 the bad one hasn't it", x.weight(0, 5), 0);
        Due.is("11 next", x.next(0), 2);
        x.answer(0, PASSED);
        Due.is("11 passed, 2 has it", x.weight(0, 1), 2);
        Due.is("11 passed in itself", x.weight(0, 2), 2);
        Due.is("11 passed in another one", x.weight(0, 3), 5);
        Due.is("11 next", x.next(0), 3);
        x.answer(0, FAILED);
        Due.is("11 failed, 3 has it", x.weight(0, 1), 6);
        Due.is("11 failed, 3 has it", x.weight(0, 3), 15);
        Due.is("11 failed in another one", x.weight(0, 4), 0);
        for (int wrong : new int[] {-1, -2, 6, 39, 40, 64, 65, LEAST, MOST}) {
            Due.is("11 no such change " + wrong, x.weight(0, wrong), 0);
        }
        for (int wrong : new int[] {-1, 1, 2, 4, LEAST, MOST}) {
            Due.is("11 no search " + wrong, x.weight(wrong, 1), 0);
        }
    }

    private static void promise11GreatWeights() {
        CulpritSearch x = Graphs.chain(2, 1);
        x.begin(0, 1, 8, 9, 100);
        for (int i = 0; i < 15; i++) {
            x.answer(0, PASSED);
        }
        Due.is("11 8 to the 15th", x.weight(0, 0), 35184372088832L);
        Due.is("11 9 to the 15th", x.weight(0, 1), 205891132094649L);
        Due.is("13 their sum", x.total(0), 241075504183481L);
        Due.is("12 part", x.part(0, 0), 35184372088832L);
        Due.is("15 told", x.told(0, 0), 1);
        Due.is("8 tired", x.state(0), 3);
    }

    private static void promise12Part() {
        CulpritSearch x = new CulpritSearch();
        x.change(NONE, NONE, NONE);
        x.change(0, NONE, NONE);
        x.change(0, NONE, NONE);
        x.change(1, 2, NONE);
        x.change(3, NONE, NONE);
        x.change(2, NONE, NONE);
        x.target();
        x.target();
        Due.is("12 no search", x.part(0, 0), 0);
        x.begin(0, 4, 1, 4, 100);
        Due.is("12 the first", x.part(0, 0), 1);
        Due.is("12 a side", x.part(0, 2), 2);
        Due.is("12 what both sides have counts once", x.part(0, 3), 4);
        Due.is("12 the bad one", x.part(0, 4), 5);
        Due.is("12 one that the bad one hasn't", x.part(0, 5), 2);
        Due.is("12 next", x.next(0), 1);
        x.answer(0, PASSED);
        Due.is("12 by weights", x.part(0, 1), 2);
        Due.is("12 by weights", x.part(0, 3), 10);
        Due.is("12 by weights", x.part(0, 5), 5);
        for (int wrong : new int[] {-1, -2, 6, 39, 40, 64, 68, LEAST, MOST}) {
            Due.is("12 no such change " + wrong, x.part(0, wrong), 0);
        }
        for (int wrong : new int[] {-1, 1, 2, 4, LEAST, MOST}) {
            Due.is("12 no search " + wrong, x.part(wrong, 1), 0);
        }
    }

    private static void promise13Total() {
        CulpritSearch x = Graphs.chain(6, 2);
        for (int wrong : new int[] {-1, 0, 2, 4, LEAST, MOST}) {
            Due.is("13 no search " + wrong, x.total(wrong), 0);
        }
        x.begin(0, 4, 1, 4, 100);
        Due.is("13 total", x.total(0), 5);
        x.change(4, NONE, NONE);
        Due.is("13 a new change weighs nothing", x.total(0), 5);
        Due.is("13 next", x.next(0), 1);
        x.answer(0, FAILED);
        Due.is("13 3 and 3", x.total(0), 6);
        Due.is("13 the other one has no search", x.total(1), 0);
    }

    private static void promise14Found() {
        CulpritSearch x = Graphs.chain(4, 2);
        for (int wrong : new int[] {-1, 0, 2, 4, LEAST, MOST}) {
            Due.is("14 no search " + wrong, x.found(wrong), NONE);
        }
        x.begin(0, 3, 0, 1, 100);
        Due.is("14 not yet", x.found(0), NONE);
        x.answer(0, PASSED);
        Due.is("14 not yet", x.found(0), NONE);
        x.answer(0, FAILED);
        Due.is("14 it is 2", x.found(0), 2);
        x.good(1, 2);
        x.begin(1, 3, 0, 1, 51);
        Due.is("14 the only one left", x.found(1), 3);
        x.begin(0, 1, 8, 9, 90);
        for (int i = 0; i < 15; i++) {
            x.answer(0, PASSED);
        }
        Due.is("14 tired isn't found", x.state(0), 3);
        Due.is("14 tired isn't found", x.found(0), NONE);
    }

    private static void promise15Told() {
        CulpritSearch x = Graphs.chain(6, 2);
        Due.is("15 no search", x.told(0, 0), NONE);
        x.good(0, 0);
        x.begin(0, 4, 1, 3, 100);
        for (int i = 0; i < 4; i++) {
            Due.is("15 of like ones the lesser", x.told(0, i), i + 1);
        }
        Due.is("15 none beyond", x.told(0, 4), NONE);
        Due.is("15 next", x.next(0), 2);
        x.answer(0, PASSED);
        Due.is("15 3 and 4 weigh more", x.told(0, 0), 3);
        Due.is("15 then 4", x.told(0, 1), 4);
        Due.is("15 then 1", x.told(0, 2), 1);
        Due.is("15 then 2", x.told(0, 3), 2);
        Due.is("15 next", x.next(0), 3);
        x.answer(0, FAILED);
        Due.is("15 3", x.told(0, 0), 3);
        Due.is("15 then 1", x.told(0, 1), 1);
        Due.is("15 then 2", x.told(0, 2), 2);
        Due.is("15 4 has no weight", x.told(0, 3), NONE);
        for (int wrong : new int[] {-1, -2, 5, 6, 39, 40, LEAST, MOST}) {
            Due.is("15 no such k " + wrong, x.told(0, wrong), NONE);
        }
        for (int wrong : new int[] {-1, 1, 2, 4, LEAST, MOST}) {
            Due.is("15 no search " + wrong, x.told(wrong, 0), NONE);
        }
        x.begin(1, 1, 0, 1, 100);
        Due.is("15 the first change too", x.told(1, 0), 0);
        Due.is("15 the first change too", x.told(1, 1), 1);
    }

    private static void promise16Way() {
        CulpritSearch x = new CulpritSearch();
        x.change(NONE, NONE, NONE);
        x.change(NONE, NONE, NONE);
        x.change(0, NONE, NONE);
        x.change(1, NONE, NONE);
        x.change(1, 0, NONE);
        x.change(4, 2, 3);
        x.change(5, NONE, NONE);
        x.target();
        x.target();
        Due.is("16 no search", x.way(0, 0), NONE);
        // 5 has 1 by 3 and by 4, of which 3 is less, though 4 was named first.
        x.begin(0, 6, 0, 1, 100);
        Due.is("16 not found", x.way(0, 0), NONE);
        findByHand(x, 0, 1);
        int[] due = {6, 5, 3, 1, NONE, NONE};
        for (int i = 0; i < due.length; i++) {
            Due.is("16 to 1, step " + i, x.way(0, i), due[i]);
        }
        x.begin(0, 6, 0, 1, 100);
        findByHand(x, 0, 0);
        int[] other = {6, 5, 2, 0, NONE};
        for (int i = 0; i < other.length; i++) {
            Due.is("16 to 0, step " + i, x.way(0, i), other[i]);
        }
        for (int wrong : new int[] {-1, -2, 39, 40, 41, LEAST, MOST}) {
            Due.is("16 no such k " + wrong, x.way(0, wrong), NONE);
        }
        for (int wrong : new int[] {-1, 1, 2, 4, LEAST, MOST}) {
            Due.is("16 no search " + wrong, x.way(wrong, 0), NONE);
        }
        x.begin(1, 1, 0, 1, 100);
        Due.is("16 the bad one is it", x.way(1, 0), 1);
        Due.is("16 .. and the end", x.way(1, 1), NONE);
        CulpritSearch y = Graphs.chain(40, 1);
        y.begin(0, 39, 0, 1, 100);
        findByHand(y, 0, 0);
        Due.is("16 the longest way", y.way(0, 39), 0);
        Due.is("16 its end", y.way(0, 40), NONE);
    }

    /** Answers as the culprit's outcomes are, until it is found. */
    private static void findByHand(CulpritSearch x, int target, int culprit) {
        for (int i = 0; i < 15 && x.state(target) == 0; i++) {
            x.answer(target, x.has(x.next(target), culprit) ? FAILED : PASSED);
        }
        Due.is("found by hand", x.found(target), culprit);
    }

    private static void promise17Counted() {
        CulpritSearch x = Graphs.chain(9, 2);
        Due.is("17 answers without a search", x.counted(0, 0), NONE);
        Due.is("17 skipped without a search", x.counted(0, 1), 0);
        Due.is("17 built without a search", x.counted(0, 2), 0);
        Due.is("17 bad without a search", x.counted(0, 3), NONE);
        x.begin(0, 7, 1, 3, 100);
        x.begin(1, 8, 1, 3, 100);
        x.answer(0, FAILED);
        x.answer(0, UNBUILDABLE);
        x.answer(0, PASSED);
        x.answer(0, PASSED);
        Due.is("17 answers", x.counted(0, 0), 3);
        Due.is("17 skipped", x.counted(0, 1), 1);
        Due.is("17 bad", x.counted(0, 3), 7);
        Due.is("17 the other's answers", x.counted(1, 0), 0);
        Due.is("17 the other's skipped", x.counted(1, 1), 0);
        Due.is("17 the other's bad", x.counted(1, 3), 8);
        // Asked were 3, 1 (which can't be built), 0 and 2.
        for (int any : new int[] {-1, 0, 1, 2, 4, LEAST, MOST}) {
            Due.is("17 built, whatever target " + any, x.counted(any, 2), 3);
        }
        x.stop(0);
        Due.is("17 skipped in all, without a search", x.counted(0, 1), 1);
        Due.is("17 answers, given up", x.counted(0, 0), NONE);
        Due.is("17 bad, given up", x.counted(0, 3), NONE);
        x.begin(0, 7, 1, 3, 100);
        x.answer(0, UNBUILDABLE);
        Due.is("17 skipped in all", x.counted(0, 1), 2);
        for (int wrong : new int[] {-1, -2, 4, 5, LEAST, MOST}) {
            Due.is("17 no such what " + wrong, x.counted(0, wrong), NONE);
        }
        for (int wrong : new int[] {-1, 2, 4, LEAST, MOST}) {
            Due.is("17 no such target " + wrong, x.counted(wrong, 0), NONE);
            Due.is("17 no such target " + wrong, x.counted(wrong, 1), NONE);
            Due.is("17 no such target " + wrong, x.counted(wrong, 3), NONE);
        }
    }
}
