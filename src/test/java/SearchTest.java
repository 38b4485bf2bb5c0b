import java.util.NoSuchElementException;

/** Promises 10 search, 11 exact, 12 steps, 13 ties, 14 often and 15 found. */
public final class SearchTest {
    private static final Class<IllegalArgumentException> ARGUMENT = IllegalArgumentException.class;
    private static final Class<NoSuchElementException> NO_SUCH = NoSuchElementException.class;
    private static final Due due = new Due("SearchTest");

    public static void main(String[] args) {
        withoutDifferences();
        searchRefuses();
        fewestChangesFirst();
        stepsOfAllSizes();
        sizesAboveTheCandidates();
        stepsRunOut();
        stepsRunOutBehindTheFirst();
        orderAndTies();
        oneChangeOfAnAct();
        onlyCandidatesAreChanged();
        allCountedMustAgree();
        aSearchChangesNothingElse();
        foundRefuses();
        oftenOfLaterActs();
        aRefusedSearchIsNone();
        due.end();
    }

    private static void last(ExplainDifference x, int exact, int steps, int ties, int changes) {
        due.is("exact", exact, () -> x.exact() ? 1 : 0);
        due.is("steps", steps, () -> x.steps());
        due.is("ties", ties, () -> x.ties());
        due.is("changes", changes, () -> x.count(7));
    }

    private static void foundAre(ExplainDifference x, int[][] want) {
        due.is("changes", want.length, () -> x.count(7));
        for (int i = 0; i < want.length; i++) {
            int n = i;
            due.is("found(" + n + ", 0)", want[n][0], () -> x.found(n, 0));
            due.is("found(" + n + ", 1)", want[n][1], () -> x.found(n, 1));
        }
        due.refuses("found behind", NO_SUCH, () -> x.found(want.length, 0));
    }

    private static ExplainDifference puts(int good, int... pieces) {
        ExplainDifference x = new ExplainDifference();
        for (int n : pieces) {
            x.put(0, good, n, 0);
        }
        return x;
    }

    private static void withoutDifferences() {
        ExplainDifference x = puts(0, 5, 5);
        x.counted(0, 0, 5);
        due.is("found", 1, () -> x.search(1, 100));
        last(x, 1, 4, 2, 1);
        x.counted(0, 0, 10);
        due.is("without differences", 0, () -> x.search(4, 0));
        last(x, 1, 0, 0, 0);
        due.is("often", 0, () -> x.often(0));
        due.refuses("found", NO_SUCH, () -> x.found(0, 0));
        due.refuses("accept", IllegalStateException.class, () -> x.accept());
    }

    private static void searchRefuses() {
        ExplainDifference x = new ExplainDifference();
        due.refuses("most 0", ARGUMENT, () -> x.search(0, 1));
        due.refuses("most -1", ARGUMENT, () -> x.search(-1, 1));
        due.refuses("most 5", ARGUMENT, () -> x.search(5, 1));
        due.refuses("steps -1", ARGUMENT, () -> x.search(1, -1));
        due.refuses("steps 20001", ARGUMENT, () -> x.search(1, 20001));
        due.is("refused: not exact", 0, () -> x.exact() ? 1 : 0);
        due.is("least", 0, () -> x.search(1, 0));
        due.is("greatest", 0, () -> x.search(4, 20000));
    }

    private static void fewestChangesFirst() {
        ExplainDifference x = puts(0, 1, 2, 3);
        x.counted(0, 0, 3);
        due.is("one", 1, () -> x.search(4, 20000));
        foundAre(x, new int[][] {{2, 0}});
        last(x, 1, 6, 1, 1);
        x.counted(0, 0, 11);
        due.is("two", 2, () -> x.search(4, 20000));
        foundAre(x, new int[][] {{1, 1}, {2, 1}});
        last(x, 1, 6 + 18, 1, 2);
        x.counted(0, 0, 12);
        due.is("three", 3, () -> x.search(4, 20000));
        foundAre(x, new int[][] {{0, 1}, {1, 1}, {2, 1}});
        last(x, 1, 6 + 18 + 26, 1, 3);
        due.is("none of two", -1, () -> x.search(2, 20000));
        last(x, 1, 24, 0, 0);
        ExplainDifference y = puts(3, 1, 2, 4, 8);
        y.counted(0, 3, 30);
        due.is("four", 4, () -> y.search(4, 20000));
        foundAre(y, new int[][] {{0, 1}, {1, 1}, {2, 1}, {3, 1}});
        last(y, 1, 8 + 32 + 64 + 80, 1, 4);
        y.counted(0, 3, 0);
        due.is("four omitted", 4, () -> y.search(4, 20000));
        foundAre(y, new int[][] {{0, 0}, {1, 0}, {2, 0}, {3, 0}});
    }

    private static void stepsOfAllSizes() {
        ExplainDifference x = puts(0, 2, 2, 2, 2, 2);
        x.counted(0, 0, 1);
        int[] due1to4 = {10, 10 + 50, 10 + 50 + 130, 10 + 50 + 130 + 210};
        for (int most = 1; most <= 4; most++) {
            int m = most;
            due.is("none", -1, () -> x.search(m, 20000));
            last(x, 1, due1to4[m - 1], 0, 0);
        }
    }

    private static void sizesAboveTheCandidates() {
        ExplainDifference x = puts(0, 2);
        x.counted(0, 0, 1);
        due.is("none", -1, () -> x.search(4, 20000));
        last(x, 1, 2 + 2 + 2 + 2, 0, 0);
        due.is("none", -1, () -> x.search(4, 8));
        last(x, 1, 8, 0, 0);
        due.is("a step less", -1, () -> x.search(4, 7));
        last(x, 0, 7, 0, 0);
        ExplainDifference y = new ExplainDifference();
        y.counted(0, 0, 1);
        due.is("no candidates, no steps", -1, () -> y.search(4, 0));
        last(y, 1, 0, 0, 0);
    }

    private static void stepsRunOut() {
        ExplainDifference x = puts(0, 1, 2, 3);
        x.counted(0, 0, 11);
        due.is("no steps", -1, () -> x.search(4, 0));
        last(x, 0, 0, 0, 0);
        due.is("all of size one alone", -1, () -> x.search(1, 6));
        last(x, 1, 6, 0, 0);
        due.is("none of size two", -1, () -> x.search(2, 6));
        last(x, 0, 6, 0, 0);
        due.is("a step before", -1, () -> x.search(2, 6 + 15));
        last(x, 0, 21, 0, 0);
        due.is("a step before, again", -1, () -> x.search(2, 6 + 14));
        last(x, 0, 20, 0, 0);
        due.is("just found", 2, () -> x.search(2, 6 + 16));
        last(x, 0, 22, 1, 2);
        foundAre(x, new int[][] {{1, 1}, {2, 1}});
        due.is("all but one", 2, () -> x.search(4, 23));
        last(x, 0, 23, 1, 2);
        due.is("all", 2, () -> x.search(4, 24));
        last(x, 1, 24, 1, 2);
    }

    private static void stepsRunOutBehindTheFirst() {
        ExplainDifference x = puts(0, 4, 4, 4);
        x.counted(0, 0, 8);
        due.is("first", 1, () -> x.search(2, 1));
        last(x, 0, 1, 1, 1);
        due.is("often", 0, () -> x.often(1));
        due.is("second", 1, () -> x.search(2, 3));
        last(x, 0, 3, 2, 1);
        due.is("often", 1, () -> x.often(1));
        due.is("often", 0, () -> x.often(2));
        due.is("third", 1, () -> x.search(2, 5));
        last(x, 0, 5, 3, 1);
        due.is("whole", 1, () -> x.search(2, 6));
        last(x, 1, 6, 3, 1);
        foundAre(x, new int[][] {{0, 0}});
    }

    private static void orderAndTies() {
        ExplainDifference x = new ExplainDifference();
        x.put(0, 0, 5, 0);
        x.take(0, 0, 5, 0);
        x.put(0, 0, 5, 0);
        x.put(0, 1, 3, 0);
        x.put(0, 1, 3, 0);
        x.counted(0, 0, 10);
        x.counted(0, 1, 3);
        due.is("two", 2, () -> x.search(4, 20000));
        last(x, 1, 10 + 50, 6, 2);
        foundAre(x, new int[][] {{0, 1}, {3, 0}});
        int[] often = {2, 2, 2, 3, 3};
        for (int act = 0; act < often.length; act++) {
            int a = act;
            due.is("often(" + a + ")", often[a], () -> x.often(a));
        }
        x.closed(0, true);
        due.is("two", 2, () -> x.search(4, 20000));
        foundAre(x, new int[][] {{1, 0}, {3, 0}});
        due.is("ties", 4, () -> x.ties());
        due.is("often of a closed act", 0, () -> x.often(0));
    }

    private static void oneChangeOfAnAct() {
        ExplainDifference x = puts(0, 5);
        x.counted(0, 0, 15);
        due.is("not tripled", -1, () -> x.search(4, 20000));
        x.counted(0, 0, 10);
        due.is("doubled", 1, () -> x.search(4, 20000));
        foundAre(x, new int[][] {{0, 1}});
        x.accept();
        x.counted(0, 0, 0);
        due.is("not plain: no candidate", -1, () -> x.search(4, 20000));
        last(x, 1, 0, 0, 0);
    }

    private static void onlyCandidatesAreChanged() {
        ExplainDifference x = new ExplainDifference();
        x.put(0, 0, 4, 10);
        x.put(0, 0, 4, 20);
        x.put(0, 0, 4, 30);
        x.put(1, 0, 4, 30);
        x.counted(0, 0, 8);
        x.window(20, 30);
        x.closed(2, true);
        due.is("one", 1, () -> x.search(4, 20000));
        last(x, 1, 2, 1, 1);
        foundAre(x, new int[][] {{1, 0}});
        x.window(21, 10000);
        due.is("none", -1, () -> x.search(4, 20000));
        last(x, 1, 0, 0, 0);
    }

    private static void allCountedMustAgree() {
        ExplainDifference x = new ExplainDifference();
        x.put(0, 0, 4, 0);
        x.move(0, 1, 0, 4, 0);
        x.put(1, 0, 4, 0);
        x.take(0, 0, 4, 0);
        x.counted(1, 0, 4);
        due.is("the move or the put", 1, () -> x.search(4, 20000));
        last(x, 1, 4, 2, 1);
        foundAre(x, new int[][] {{1, 0}});
        x.counted(0, 0, 0);
        due.is("the move alone", 1, () -> x.search(4, 20000));
        last(x, 1, 8, 1, 1);
        foundAre(x, new int[][] {{1, 0}});
        x.closed(1, true);
        due.is("put here, put there", 2, () -> x.search(4, 20000));
        foundAre(x, new int[][] {{0, 1}, {2, 0}});
        due.is("ties", 2, () -> x.ties());
    }

    private static void aSearchChangesNothingElse() {
        ExplainDifference x = puts(0, 1, 2, 3);
        x.counted(0, 0, 11);
        for (int steps = 0; steps <= 30; steps++) {
            x.search(4, steps);
            due.is("expected", 6, () -> x.expected(0, 0));
            due.is("differences", 1, () -> x.count(1));
            due.is("omitted", 0, () -> x.count(4));
            due.is("doubled", 0, () -> x.count(5));
            due.is("candidates", 3, () -> x.count(3));
        }
    }

    private static void foundRefuses() {
        ExplainDifference x = puts(0, 1, 2, 3);
        x.counted(0, 0, 11);
        x.search(2, 100);
        due.refuses("i -1", NO_SUCH, () -> x.found(-1, 0));
        due.refuses("i 2", NO_SUCH, () -> x.found(2, 0));
        due.refuses("what -1", ARGUMENT, () -> x.found(0, -1));
        due.refuses("what 2", ARGUMENT, () -> x.found(1, 2));
        due.refuses("the change first", NO_SUCH, () -> x.found(2, 2));
        due.is("before", 2, () -> x.search(2, 22));
        due.is("none is found", -1, () -> x.search(1, 100));
        due.refuses("no explanation", NO_SUCH, () -> x.found(0, 0));
        due.refuses("no explanation", IllegalStateException.class, () -> x.accept());
    }

    private static void oftenOfLaterActs() {
        ExplainDifference x = puts(0, 4);
        x.counted(0, 0, 0);
        x.search(1, 100);
        due.is("often", 1, () -> x.often(0));
        due.refuses("no act", NO_SUCH, () -> x.often(1));
        due.refuses("act -1", NO_SUCH, () -> x.often(-1));
        x.put(0, 0, 4, 0);
        due.is("a later act", 0, () -> x.often(1));
        due.is("ties are kept", 1, () -> x.ties());
        foundAre(x, new int[][] {{0, 0}});
    }

    private static void aRefusedSearchIsNone() {
        ExplainDifference x = puts(0, 4);
        x.counted(0, 0, 0);
        x.search(1, 100);
        due.refuses("most 5", ARGUMENT, () -> x.search(5, 100));
        due.refuses("steps -1", ARGUMENT, () -> x.search(1, -1));
        last(x, 1, 2, 1, 1);
        due.is("often", 1, () -> x.often(0));
        foundAre(x, new int[][] {{0, 0}});
    }
}
