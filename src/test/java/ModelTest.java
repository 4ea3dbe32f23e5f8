import java.util.Random;

/** Long runs of drawn calls, the same ones each time, answered by the program and by the model. */
public final class ModelTest {
    private static final int RUNS = 800;
    private static final int CALLS = 512;
    private static final int MOST_CALLS_A_STEP = 4;
    private static final int[] WILD = {-1, -2, 4, 39, 40, 41, 63, 64, 65, 100, 1000, Integer.MIN_VALUE, Integer.MAX_VALUE};

    // How often an answer led to each state, from NONE on: runs that never get there test nothing.
    private static final long[] statesSeen = new long[5];

    private final Random random;
    private final CulpritSearch program = new CulpritSearch();
    private final Model model = new Model();
    private final int run;
    private final int shape;
    // Searches that are seldom begun anew and hardly ever fail get tired.
    private final boolean patient;
    private int number = 0;

    private ModelTest(int seed) {
        random = new Random(seed);
        run = seed;
        shape = seed % 4;
        patient = seed % 8 >= 4;
    }

    public static void main(String[] args) {
        for (int run = 0; run < RUNS; run++) {
            new ModelTest(run).play();
        }
        for (int i = 0; i < statesSeen.length; i++) {
            if (statesSeen[i] < 100) {
                Due.wrong("the runs reached the state " + (i - 1) + " only " + statesSeen[i] + " times");
            }
        }
        Due.end();
    }

    private void play() {
        int early = shape == 3 ? 40 : 4 + random.nextInt(20);
        for (int i = 0; i < early; i++) {
            callChange();
        }
        while (number + MOST_CALLS_A_STEP <= CALLS) {
            int drawn = random.nextInt(100);
            if (drawn < 4) {
                callChange();
            } else if (drawn < 7) {
                due("target()", program.target(), model.target());
            } else if (drawn < 12) {
                callGood();
            } else if (drawn < (patient ? 13 : 17)) {
                callBegin(draw(4));
            } else if (drawn < 55) {
                callAnswer();
            } else if (drawn < 57) {
                callStop();
            } else {
                callLook();
            }
        }
    }

    private void due(String call, long got, long want) {
        number++;
        Due.is("run " + run + ", call " + number + ": " + call, got, want);
    }

    private int draw(int bound) {
        if (random.nextInt(25) == 0) {
            return WILD[random.nextInt(WILD.length)];
        }
        return random.nextInt(Math.max(1, bound));
    }

    private int drawChange() {
        return draw(model.changes());
    }

    private int drawParent() {
        int size = model.changes();
        if (size == 0 || random.nextInt(3) == 0) {
            return -1;
        }
        if (random.nextInt(60) == 0) {
            return draw(size);
        }
        // A chain, a thicket, or a wide field of changes.
        int back = shape == 0 ? 1 : shape == 1 ? 4 : size;
        return Math.max(0, size - 1 - random.nextInt(back));
    }

    private void callChange() {
        int a = drawParent();
        int b = drawParent();
        int c = drawParent();
        due("change(" + a + ", " + b + ", " + c + ")", program.change(a, b, c), model.change(a, b, c));
    }

    private void callGood() {
        int target = draw(4);
        int change = random.nextBoolean() ? draw(model.changes() / 4) : drawChange();
        due("good(" + target + ", " + change + ")", program.good(target, change), model.good(target, change));
    }

    private void callBegin(int target) {
        int bad = random.nextBoolean() ? model.changes() - 1 : drawChange();
        int q = random.nextInt(12) == 0 ? draw(12) : random.nextBoolean() ? 9 : 1 + random.nextInt(9);
        int p = random.nextInt(12) == 0 ? draw(12) : random.nextBoolean() ? q - 1 : random.nextInt(Math.max(1, q));
        int sure = random.nextInt(12) == 0 ? 49 + random.nextInt(54) : random.nextBoolean() ? 100 : 51 + random.nextInt(50);
        due("begin(" + target + ", " + bad + ", " + p + ", " + q + ", " + sure + ")",
                program.begin(target, bad, p, q, sure), model.begin(target, bad, p, q, sure));
    }

    private void callAnswer() {
        int target = patient ? draw(2) : draw(4);
        if (model.state(target) != 0 && random.nextInt(4) != 0) {
            callBegin(target);
            return;
        }
        int drawn = random.nextInt(40);
        int outcome = drawn == 0 ? draw(6) : drawn < 3 ? 2 : drawn < (patient ? 5 : 12) ? 1 : 0;
        int want = model.answer(target, outcome);
        due("answer(" + target + ", " + outcome + ")", program.answer(target, outcome), want);
        statesSeen[want + 1]++;
        due("state(" + target + ")", program.state(target), model.state(target));
        due("next(" + target + ")", program.next(target), model.next(target));
        due("total(" + target + ")", program.total(target), model.total(target));
    }

    private void callStop() {
        int target = draw(4);
        due("stop(" + target + ")", program.stop(target) ? 1 : 0, model.stop(target) ? 1 : 0);
    }

    private void callLook() {
        int target = draw(4);
        int change = drawChange();
        int other = drawChange();
        int k = draw(6);
        int what = draw(5);
        String on = "(" + target + ", ";
        switch (random.nextInt(10)) {
            case 0 -> due("has(" + change + ", " + other + ")", program.has(change, other) ? 1 : 0, model.has(change, other) ? 1 : 0);
            case 1 -> due("state(" + target + ")", program.state(target), model.state(target));
            case 2 -> due("next(" + target + ")", program.next(target), model.next(target));
            case 3 -> due("weight" + on + change + ")", program.weight(target, change), model.weight(target, change));
            case 4 -> due("part" + on + change + ")", program.part(target, change), model.part(target, change));
            case 5 -> due("total(" + target + ")", program.total(target), model.total(target));
            case 6 -> due("found(" + target + ")", program.found(target), model.found(target));
            case 7 -> due("told" + on + k + ")", program.told(target, k), model.told(target, k));
            case 8 -> due("way" + on + k + ")", program.way(target, k), model.way(target, k));
            default -> due("counted" + on + what + ")", program.counted(target, what), model.counted(target, what));
        }
    }
}
