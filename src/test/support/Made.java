import java.util.Arrays;

/** Objects in the states that the tests of the bounds begin with. */
final class Made {
    private Made() {
    }

    /** Nothing yet. */
    static ExplainDifference fresh() {
        return new ExplainDifference();
    }

    /**
     * Something of everything: 4 acts till time 5 (0 plain, 1 closed, 2 doubled, 3 omitted), the
     * window 1 .. 9, one difference, and an explanation of one change, found by 4 steps.
     */
    static ExplainDifference mixed() {
        ExplainDifference x = new ExplainDifference();
        x.put(0, 0, 5, 3);
        x.put(0, 0, 5, 3);
        x.move(0, 1, 1, 3, 4);
        x.take(2, 2, 4, 5);
        x.counted(2, 2, 0);
        x.counted(1, 1, 6);
        x.search(2, 20000);
        x.accept();
        x.counted(0, 0, 5);
        x.search(1, 100);
        x.closed(1, true);
        x.window(1, 9);
        return x;
    }

    /** 24 puts at times 100 .. 123, act i at place i % 10 and good i % 6. */
    static ExplainDifference full() {
        ExplainDifference x = new ExplainDifference();
        for (int act = 0; act < 24; act++) {
            x.put(act % 10, act % 6, 1, 100 + act);
        }
        return x;
    }

    /** Puts of such pieces of good 0 at place 0, act i at time i. */
    static ExplainDifference puts(int... pieces) {
        ExplainDifference x = new ExplainDifference();
        for (int act = 0; act < pieces.length; act++) {
            x.put(0, 0, pieces[act], act);
        }
        return x;
    }

    /** So many puts of the same pieces of good 0 at place 0, act i at time i. */
    static ExplainDifference equalPuts(int acts, int pieces) {
        int[] all = new int[acts];
        Arrays.fill(all, pieces);
        return puts(all);
    }
}
