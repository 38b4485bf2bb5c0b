import java.util.NoSuchElementException;

/** The bounds of a search: what "Terms" says of it, and promises 10 to 15. */
public final class SearchBoundsTest {
    private static final Class<IllegalArgumentException> ARGUMENT = IllegalArgumentException.class;
    private static final Class<NoSuchElementException> NO_SUCH = NoSuchElementException.class;
    private static final Class<IllegalStateException> STATE = IllegalStateException.class;
    private static final Due due = new Due("SearchBoundsTest");
    private static final Edges fresh = new Edges(due, Made::fresh);
    private static final Edges mixed = new Edges(due, Made::mixed);
    private static final Edges full = new Edges(due, Made::full);
    private static final Edges four = new Edges(due, SearchBoundsTest::fourFound);

    public static void main(String[] args) {
        soManyChangesAtMost();
        soManySteps();
        oneChangeThenTwo();
        inTheOrderOfTheirChanges();
        aStepIsAChangePut();
        allOfTheSize();
        noStepsLeft();
        noStepsAtAll();
        the20000Steps();
        first20000StepsOfFourChanges();
        ofDifferentActs();
        noDifferenceAnyMore();
        candidatesAlone();
        withoutDifferences();
        noneIsFound();
        exactBefore();
        stepsBefore();
        tiesWithout();
        mostTies();
        oftenInThese();
        oftenRefuses();
        ofChangeI();
        foundRefuses();
        foundWithoutAnExplanation();
        due.end();
    }

    /** Sums of these, each added, left out or taken away, are all different: no ties. */
    private static ExplainDifference threes() {
        return Made.puts(1, 3, 9, 27, 81);
    }

    private static ExplainDifference fourFound() {
        ExplainDifference x = threes();
        x.counted(0, 0, 121 + 1 - 3 + 27 - 81);
        x.search(4, 20000);
        return x;
    }

    private static void last(ExplainDifference x, int exact, int steps, int ties, int changes) {
        due.is("exact", exact, () -> x.exact() ? 1 : 0);
        due.is("steps", steps, () -> x.steps());
        due.is("ties", ties, () -> x.ties());
        due.is("changes", changes, () -> x.count(7));
    }

    private static void soManyChangesAtMost() {
        due.by("A search with so many changes at most (1 .. 4)");
        fresh.range("nothing yet", 1, 4, 0, (x, n) -> x.search(n, 1));
        mixed.range("most", 1, 4, 1, (x, n) -> x.search(n, 100));
        mixed.refused("most -4", ARGUMENT, x -> x.search(-4, 100));
        mixed.beyond("both", 1, 20000, ARGUMENT, (x, n) -> x.search(n, n));
        four.beyond("a refused search leaves the last", 1, 4, ARGUMENT, (x, n) -> x.search(n, 9));
    }

    private static void soManySteps() {
        due.by("and so many steps (0 .. 20000)");
        fresh.range("nothing yet", 0, 20000, 0, (x, n) -> x.search(1, n));
        mixed.allowed("steps 0", -1, x -> x.search(1, 0));
        mixed.allowed("steps 1", 1, x -> x.search(1, 1));
        mixed.allowed("steps 20000", 1, x -> x.search(1, 20000));
        mixed.beyond("steps", 0, 20000, ARGUMENT, (x, n) -> x.search(1, n));
        mixed.beyond("steps, most 4", 0, 20000, ARGUMENT, (x, n) -> x.search(4, n));
        four.beyond("a refused search leaves the last", 0, 20000, ARGUMENT,
                (x, n) -> x.search(4, n));
    }

    private static void oneChangeThenTwo() {
        due.by("explanations of one change, then of two, and so on, till there is one, to so many");
        int[] more = {1, 1 + 3, 1 + 3 + 9, 1 + 3 + 9 + 27, 1 + 3 + 9 + 27 + 81};
        int[] stepsTill = {10, 10 + 50, 10 + 50 + 130, 10 + 50 + 130 + 210};
        for (int needed = 1; needed <= 5; needed++) {
            ExplainDifference x = threes();
            x.counted(0, 0, 121 + more[needed - 1]);
            for (int most = 1; most <= 4; most++) {
                int n = needed;
                int m = most;
                due.is(n + " needed, " + m + " at most", n <= m ? n : -1, () -> x.search(m, 20000));
                last(x, 1, stepsTill[Math.min(n, m) - 1], n <= m ? 1 : 0, n <= m ? n : 0);
            }
        }
    }

    // Two candidates, so 4 steps of one change, then 0o 0o1o 0o1d 0d 0d1o 0d1d 1o 1d.
    private static void inTheOrderOfTheirChanges() {
        due.by("Sets of a size are gone through in the order of their changes, from the first on");
        int[][] want = {
            {4 - 1, 1, 4, 0, 0}, {4 + 1, 2, 4, 0, 1}, {4 - 3, 3, 4, 1, 0}, {4 + 3, 4, 4, 1, 1},
        };
        for (int[] w : want) {
            ExplainDifference x = foundAt(Made.puts(1, 3), w[0], w[1], w[2], 1);
            due.is("act", w[3], () -> x.found(0, 0));
            due.is("change", w[4], () -> x.found(0, 1));
        }
        int[][] pairs = {
            {4 - 1 - 3, 6, 0, 0}, {4 - 1 + 3, 7, 0, 1}, {4 + 1 - 3, 9, 1, 0}, {4 + 1 + 3, 10, 1, 1},
        };
        for (int[] w : pairs) {
            ExplainDifference x = foundAt(Made.puts(1, 3), w[0], w[1], 12, 2);
            due.is("the first act", 0, () -> x.found(0, 0));
            due.is("its change", w[2], () -> x.found(0, 1));
            due.is("the second act", 1, () -> x.found(1, 0));
            due.is("its change", w[3], () -> x.found(1, 1));
        }
    }

    /** The one explanation is found with the step at which it is reached, not a step before. */
    private static ExplainDifference foundAt(ExplainDifference x, int counted, int step, int all,
            int changes) {
        x.counted(0, 0, counted);
        due.is("a step before", -1, () -> x.search(4, step - 1));
        last(x, 0, step - 1, 0, 0);
        due.is("just reached", changes, () -> x.search(4, step));
        last(x, step == all ? 1 : 0, step, 1, changes);
        due.is("all of the size", changes, () -> x.search(4, all));
        last(x, 1, all, 1, changes);
        due.is("more steps than are needed", changes, () -> x.search(4, 20000));
        last(x, 1, all, 1, changes);
        return x;
    }

    private static void aStepIsAChangePut() {
        due.by("a STEP is a change put behind those of a set at work");
        int[][] stepsOf = {
            {0, 0, 0, 0}, {2, 4, 6, 8}, {4, 12, 20, 28}, {6, 24, 50, 76}, {8, 40, 104, 184},
        };
        for (int acts = 0; acts <= 4; acts++) {
            ExplainDifference x = Made.equalPuts(acts, 2);
            x.counted(0, 0, 1);
            for (int most = 1; most <= 4; most++) {
                int want = stepsOf[acts][most - 1];
                int m = most;
                due.is(acts + " candidates, none found", -1, () -> x.search(m, 20000));
                last(x, 1, want, 0, 0);
                due.is("just as many steps", -1, () -> x.search(m, want));
                last(x, 1, want, 0, 0);
                if (want > 0) {
                    due.is("a step less", -1, () -> x.search(m, want - 1));
                    last(x, 0, want - 1, 0, 0);
                }
            }
        }
    }

    private static void allOfTheSize() {
        due.by("All of the size at which there is one are gone through; the first one is THE ..");
        ExplainDifference x = Made.puts(5, 5, 5);
        x.counted(0, 0, 10);
        due.is("one change", 1, () -> x.search(4, 20000));
        last(x, 1, 6, 3, 1);
        due.is("the first one", 0, () -> x.found(0, 0));
        due.is("no larger size is looked at", 1, () -> x.search(4, 6));
        last(x, 1, 6, 3, 1);
        for (int steps = 1; steps <= 5; steps++) {
            int s = steps;
            due.is("so far", 1, () -> x.search(4, s));
            last(x, 0, s, (s + 1) / 2, 1);
            due.is("the first one found so far", 0, () -> x.found(0, 0));
        }
    }

    private static void noStepsLeft() {
        due.by("If there are no steps left for a change to be put the search ends at once");
        ExplainDifference x = Made.puts(2, 2);
        x.counted(0, 0, 8);
        due.is("none of one change, no more sizes", -1, () -> x.search(1, 4));
        last(x, 1, 4, 0, 0);
        due.is("none of one change, a size to come", -1, () -> x.search(2, 4));
        last(x, 0, 4, 0, 0);
        due.is("in the middle of a set", -1, () -> x.search(2, 5));
        last(x, 0, 5, 0, 0);
        due.is("both doubled", 2, () -> x.search(2, 10));
        last(x, 0, 10, 1, 2);
        due.is("a change left", 2, () -> x.search(2, 11));
        last(x, 0, 11, 1, 2);
        due.is("no change left", 2, () -> x.search(2, 12));
        last(x, 1, 12, 1, 2);
        due.is("what is expected is as before", 4, () -> x.expected(0, 0));
        due.is("differences are as before", 4, () -> x.differ(0, 2));
    }

    private static void noStepsAtAll() {
        due.by("If there are no steps left for a change to be put the search ends at once");
        ExplainDifference x = new ExplainDifference();
        x.counted(0, 0, 1);
        due.is("no change to be put", -1, () -> x.search(4, 0));
        last(x, 1, 0, 0, 0);
        x.put(0, 0, 2, 0);
        due.is("a change to be put", -1, () -> x.search(1, 0));
        last(x, 0, 0, 0, 0);
        x.closed(0, true);
        due.is("no candidate any more", -1, () -> x.search(1, 0));
        last(x, 1, 0, 0, 0);
        x.closed(0, false);
        x.counted(0, 0, 2);
        due.is("no differences", 0, () -> x.search(1, 0));
        last(x, 1, 0, 0, 0);
    }

    // 24 candidates: 48 steps of one change, 1152 of two, 17344 of three.
    private static void the20000Steps() {
        due.by("so many steps (0 .. 20000)");
        ExplainDifference x = Made.equalPuts(24, 2);
        x.counted(0, 0, 1);
        int all = 48 + 1152 + 17344;
        due.is("one change", -1, () -> x.search(1, 20000));
        last(x, 1, 48, 0, 0);
        due.is("two changes", -1, () -> x.search(2, 20000));
        last(x, 1, 48 + 1152, 0, 0);
        due.is("three changes", -1, () -> x.search(3, 20000));
        last(x, 1, all, 0, 0);
        due.is("just as many steps", -1, () -> x.search(3, all));
        last(x, 1, all, 0, 0);
        due.is("a step less", -1, () -> x.search(3, all - 1));
        last(x, 0, all - 1, 0, 0);
        due.is("four changes", -1, () -> x.search(4, 20000));
        last(x, 0, 20000, 0, 0);
    }

    // Behind the smaller sizes 1456 steps are left: enough for the 969 of 0o1o, not for more of 0o.
    private static void first20000StepsOfFourChanges() {
        due.by("it is not EXACT then; the explanation is the first one found so far");
        ExplainDifference x = Made.equalPuts(24, 1);
        x.counted(0, 0, 20);
        int smaller = 48 + 1152 + 17344;
        due.is("a step before the first", -1, () -> x.search(4, smaller + 3));
        last(x, 0, smaller + 3, 0, 0);
        due.is("the first", 4, () -> x.search(4, smaller + 4));
        last(x, 0, smaller + 4, 1, 4);
        due.is("all steps", 4, () -> x.search(4, 20000));
        last(x, 0, 20000, 231, 4);
        for (int act = 0; act < 24; act++) {
            int a = act;
            due.is("often(" + a + ")", a < 2 ? 231 : 21, () -> x.often(a));
        }
        for (int i = 0; i < 4; i++) {
            int n = i;
            due.is("found(" + n + ", 0)", n, () -> x.found(n, 0));
            due.is("found(" + n + ", 1)", 0, () -> x.found(n, 1));
        }
        due.is("it can be accepted", 0, () -> x.accept());
        due.is("omitted", 4, () -> x.count(4));
    }

    private static void ofDifferentActs() {
        due.by("An EXPLANATION is a set of changes, of different acts");
        ExplainDifference x = Made.puts(5);
        x.counted(0, 0, 15);
        due.is("done three times is none", -1, () -> x.search(4, 20000));
        last(x, 1, 8, 0, 0);
        x.counted(0, 0, 10);
        due.is("twice", 1, () -> x.search(4, 20000));
        x.put(0, 0, 5, 0);
        x.counted(0, 0, 20);
        due.is("both twice", 2, () -> x.search(4, 20000));
        last(x, 1, 4 + 8, 1, 2);
    }

    private static void noDifferenceAnyMore() {
        due.by("by which there would be no difference any more");
        ExplainDifference x = new ExplainDifference();
        x.move(0, 1, 0, 5, 0);
        x.put(0, 0, 5, 0);
        x.counted(1, 0, 0);
        due.is("the other place is not counted", 1, () -> x.search(1, 100));
        x.counted(0, 0, 0);
        due.is("the other place would differ", -1, () -> x.search(1, 100));
        due.is("two changes: neither would", 2, () -> x.search(2, 100));
        last(x, 1, 4 + 8, 1, 2);
        x.counted(5, 5, 1);
        due.is("no act is where one difference is", -1, () -> x.search(4, 20000));
        last(x, 1, 4 + 8 + 8 + 8, 0, 0);
    }

    private static void candidatesAlone() {
        due.by("CANDIDATES are the plain acts that are not CLOSED, in the WINDOW, .. counted");
        ExplainDifference x = Made.puts(5, 5, 5, 5);
        x.counted(0, 0, 15);
        int[][] want = {
            {0, 10000, 4, 0}, {1, 2, 2, 1}, {2, 2, 1, 2}, {3, 3, 1, 3}, {3, 10000, 1, 3}, {0, 0, 1, 0},
        };
        for (int[] w : want) {
            due.is("candidates", w[2], () -> x.window(w[0], w[1]));
            due.is("one change", 1, () -> x.search(1, 100));
            last(x, 1, 2 * w[2], w[2], 1);
            due.is("the first in the window", w[3], () -> x.found(0, 0));
        }
        due.is("no candidate", 0, () -> x.window(4, 10000));
        due.is("none", -1, () -> x.search(4, 20000));
        last(x, 1, 0, 0, 0);
        x.window(0, 10000);
        x.closed(0, true);
        due.is("a closed act is left out", 1, () -> x.search(1, 100));
        last(x, 1, 6, 3, 1);
        due.is("accepted", 0, () -> x.accept());
        x.counted(0, 0, 10);
        due.is("an omitted act is left out", 1, () -> x.search(1, 100));
        last(x, 1, 4, 2, 1);
        x.put(1, 0, 5, 3);
        due.is("an act where nothing is counted is left out", 1, () -> x.search(1, 100));
        last(x, 1, 4, 2, 1);
    }

    private static void withoutDifferences() {
        due.by("0 without differences (nothing is looked at, it is exact)");
        for (int most = 1; most <= 4; most++) {
            for (int steps : new int[] {0, 1, 20000}) {
                int m = most;
                ExplainDifference x = Made.puts(5, 5);
                x.counted(0, 0, 5);
                due.is("a difference", 1, () -> x.search(1, 1));
                last(x, 0, 1, 1, 1);
                x.counted(0, 0, 10);
                due.is("no difference any more", 0, () -> x.search(m, steps));
                last(x, 1, 0, 0, 0);
                due.is("often", 0, () -> x.often(0));
                due.refuses("no explanation", NO_SUCH, () -> x.found(0, 0));
                due.refuses("none to accept", STATE, () -> x.accept());
            }
        }
    }

    private static void noneIsFound() {
        due.by("-1 if none is found. It is the explanation now (none, if none is found)");
        ExplainDifference x = fourFound();
        due.is("none of so few changes", -1, () -> x.search(3, 20000));
        last(x, 1, 10 + 50 + 130, 0, 0);
        due.refuses("the one before is none now", NO_SUCH, () -> x.found(0, 0));
        due.refuses("nor to accept", STATE, () -> x.accept());
        due.is("often", 0, () -> x.often(0));
        due.is("found again", 4, () -> x.search(4, 20000));
        due.is("none in so few steps", -1, () -> x.search(4, 0));
        last(x, 0, 0, 0, 0);
        due.refuses("the one before is none now", NO_SUCH, () -> x.found(0, 0));
        due.refuses("nor to accept", STATE, () -> x.accept());
        due.is("often", 0, () -> x.often(0));
    }

    private static void exactBefore() {
        due.by("Whether the last search was exact (false before)");
        fresh.allowed("nothing yet", 0, x -> x.exact() ? 1 : 0);
        ExplainDifference x = Made.puts(5);
        due.is("an act", 0, () -> x.exact() ? 1 : 0);
        x.counted(0, 0, 0);
        due.is("a difference", 0, () -> x.exact() ? 1 : 0);
        due.refuses("refused", ARGUMENT, () -> x.search(0, 0));
        due.is("a refused search is none", 0, () -> x.exact() ? 1 : 0);
        x.search(1, 1);
        due.is("a step too few", 0, () -> x.exact() ? 1 : 0);
        x.search(1, 2);
        due.is("just enough", 1, () -> x.exact() ? 1 : 0);
        due.refuses("refused", ARGUMENT, () -> x.search(5, 0));
        due.is("a refused search is not the last", 1, () -> x.exact() ? 1 : 0);
        x.accept();
        due.is("accepted", 1, () -> x.exact() ? 1 : 0);
        x.back(0);
        x.search(1, 0);
        due.is("not the last one any more", 0, () -> x.exact() ? 1 : 0);
    }

    private static void stepsBefore() {
        due.by("The steps of the last search (0 before)");
        fresh.allowed("nothing yet", 0, x -> x.steps());
        ExplainDifference x = Made.puts(5);
        x.counted(0, 0, 0);
        due.is("no search yet", 0, () -> x.steps());
        due.refuses("refused", ARGUMENT, () -> x.search(1, 20001));
        due.is("a refused search is none", 0, () -> x.steps());
        x.search(1, 20000);
        due.is("the steps that were needed", 2, () -> x.steps());
        due.refuses("refused", ARGUMENT, () -> x.search(1, -1));
        due.is("a refused search is not the last", 2, () -> x.steps());
        x.search(1, 1);
        due.is("not added", 1, () -> x.steps());
        x.search(1, 0);
        due.is("none", 0, () -> x.steps());
    }

    private static void tiesWithout() {
        due.by("How many explanations of its size the last search found (0 without)");
        fresh.allowed("nothing yet", 0, x -> x.ties());
        ExplainDifference x = Made.puts(5, 5);
        x.counted(0, 0, 1);
        due.is("no search yet", 0, () -> x.ties());
        x.search(4, 20000);
        due.is("none found", 0, () -> x.ties());
        x.counted(0, 0, 5);
        x.search(4, 1);
        due.is("one, so far", 1, () -> x.ties());
        x.search(4, 20000);
        due.is("two", 2, () -> x.ties());
        due.refuses("refused", ARGUMENT, () -> x.search(0, 1));
        due.is("a refused search is not the last", 2, () -> x.ties());
        x.counted(0, 0, 10);
        due.is("of the last search, whatever is counted now", 2, () -> x.ties());
        x.search(4, 20000);
        due.is("without differences", 0, () -> x.ties());
    }

    // So many of 24 omitted: 24, 276 and 2024 sets, each act in 1, 23 and 253 of them.
    private static void mostTies() {
        due.by("how many explanations of its size .. In how many of these an act is");
        ExplainDifference x = Made.equalPuts(24, 1);
        int[][] want = {{1, 24, 1, 48}, {2, 276, 23, 1200}, {3, 2024, 253, 18544}};
        for (int[] w : want) {
            x.counted(0, 0, 24 - w[0]);
            due.is("omitted", w[0], () -> x.search(4, 20000));
            last(x, 1, w[3], w[1], w[0]);
            for (int act = 0; act < 24; act++) {
                int a = act;
                due.is("often(" + a + ")", w[2], () -> x.often(a));
            }
        }
    }

    private static void oftenInThese() {
        due.by("In how many of these an act is");
        full.allowed("no search yet", 0, x -> x.often(23));
        mixed.allowed("the explanation's", 1, x -> x.often(0));
        mixed.allowed("a tie's, though it is closed now", 1, x -> x.often(1));
        mixed.allowed("in none, doubled", 0, x -> x.often(2));
        mixed.allowed("in none, the last", 0, x -> x.often(3));
        ExplainDifference x = Made.mixed();
        due.is("an act behind the search", 4, () -> x.put(0, 0, 5, 5));
        due.is("is in none of its", 0, () -> x.often(4));
        x.accept();
        due.is("accepted: of the last search still", 1, () -> x.often(0));
        due.is("no difference", 0, () -> x.counted(0, 0, 10));
        due.is("searched", 0, () -> x.search(4, 20000));
        due.is("in none of none", 0, () -> x.often(0));
    }

    private static void oftenRefuses() {
        due.by("NoSuchElementException (often)");
        fresh.beyond("no act", 0, -1, NO_SUCH, (x, n) -> x.often(n));
        mixed.beyond("act", 0, 3, NO_SUCH, (x, n) -> x.often(n));
        full.beyond("full", 0, 23, NO_SUCH, (x, n) -> x.often(n));
    }

    private static void ofChangeI() {
        due.by("Of change i of the explanation 0 its act, 1 what it would be");
        int[][] want = {{0, 1}, {1, 0}, {3, 1}, {4, 0}};
        for (int i = 0; i < 4; i++) {
            int n = i;
            four.allowed("found(" + n + ", 0)", want[n][0], x -> x.found(n, 0));
            four.allowed("found(" + n + ", 1)", want[n][1], x -> x.found(n, 1));
        }
        ExplainDifference x = Made.equalPuts(24, 1);
        x.counted(0, 0, 25);
        x.window(23, 23);
        due.is("the last act", 1, () -> x.search(1, 2));
        due.is("its number", 23, () -> x.found(0, 0));
        due.is("doubled", 1, () -> x.found(0, 1));
    }

    private static void foundRefuses() {
        due.by("NoSuchElementException, IllegalArgumentException (found)");
        for (int i = 0; i < 4; i++) {
            int n = i;
            four.beyond("what of change " + n, 0, 1, ARGUMENT, (x, what) -> x.found(n, what));
        }
        four.beyond("change", 0, 3, NO_SUCH, (x, n) -> x.found(n, 0));
        four.beyond("change, what 1", 0, 3, NO_SUCH, (x, n) -> x.found(n, 1));
        mixed.beyond("one change", 0, 0, NO_SUCH, (x, n) -> x.found(n, 0));
        mixed.beyond("what", 0, 1, ARGUMENT, (x, n) -> x.found(0, n));
        four.refused("the change first", NO_SUCH, x -> x.found(4, 2));
        four.refused("the change first", NO_SUCH, x -> x.found(-1, -1));
    }

    private static void foundWithoutAnExplanation() {
        due.by("NoSuchElementException: a change that there is not");
        fresh.refused("no search yet", NO_SUCH, x -> x.found(0, 0));
        fresh.refused("no search yet, and what", NO_SUCH, x -> x.found(0, 2));
        ExplainDifference x = fourFound();
        due.is("of four changes the last", 4, () -> x.found(3, 0));
        x.counted(0, 0, 121 + 1);
        due.is("one change", 1, () -> x.search(4, 20000));
        due.is("the last now", 0, () -> x.found(0, 0));
        due.refuses("not the second of the search before", NO_SUCH, () -> x.found(1, 0));
        x.accept();
        due.refuses("accepted", NO_SUCH, () -> x.found(0, 0));
        due.refuses("accepted, and what", NO_SUCH, () -> x.found(0, 2));
    }
}
