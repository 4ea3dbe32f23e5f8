/** Objects to test with, and all that can be seen of one. */
final class Graphs {
    static final int NONE = CulpritSearch.NONE;
    static final int LEAST = Integer.MIN_VALUE;
    static final int MOST = Integer.MAX_VALUE;
    static final int PASSED = 0;
    static final int FAILED = 1;
    static final int UNBUILDABLE = 2;
    static final int GOES_ON = 0;
    static final int FOUND = 1;
    static final int STUCK = 2;
    static final int TIRED = 3;

    private Graphs() {
    }

    /** Changes 0 .. length - 1, each the parent of the one behind it, and as many targets as told. */
    static CulpritSearch chain(int length, int targets) {
        CulpritSearch x = new CulpritSearch();
        for (int i = 0; i < length; i++) {
            x.change(i - 1, NONE, NONE);
        }
        return withTargets(x, targets);
    }

    /** Changes 0 .. length - 1 without parents, and as many targets as told. */
    static CulpritSearch roots(int length, int targets) {
        CulpritSearch x = new CulpritSearch();
        for (int i = 0; i < length; i++) {
            x.change(NONE, NONE, NONE);
        }
        return withTargets(x, targets);
    }

    private static CulpritSearch withTargets(CulpritSearch x, int targets) {
        for (int i = 0; i < targets; i++) {
            x.target();
        }
        return x;
    }

    /** Answers the same so many times, whatever is asked. */
    static void answerAll(CulpritSearch x, int target, int outcome, int times) {
        for (int i = 0; i < times; i++) {
            x.answer(target, outcome);
        }
    }

    /**
     * What the object answers to every question about its first few changes and targets: two texts
     * are alike if a call between them changed nothing. It takes some 150 of the 512 calls.
     */
    static String seen(CulpritSearch x, int changes, int targets) {
        StringBuilder text = new StringBuilder();
        for (int i = 0; i <= 40; i++) {
            text.append(x.has(i, i) ? '+' : '-');
        }
        text.append(" built ").append(x.counted(0, 2));
        for (int t = 0; t < targets; t++) {
            text.append("\ntarget ").append(t);
            text.append(": ").append(x.state(t)).append(' ').append(x.next(t));
            text.append(' ').append(x.total(t)).append(' ').append(x.found(t));
            text.append(' ').append(x.counted(t, 0)).append(' ').append(x.counted(t, 1));
            text.append(' ').append(x.counted(t, 3));
            for (int i = 0; i < changes; i++) {
                text.append(", ").append(x.weight(t, i)).append(' ').append(x.part(t, i));
                text.append(' ').append(x.told(t, i)).append(' ').append(x.way(t, i));
            }
        }
        return text.toString();
    }
}
