import java.util.NoSuchElementException;

/** The bounds of promises 7 counted, 8 expected, 9 differ, 18 share and 21 count. */
public final class CountsBoundsTest {
    private static final Class<IllegalArgumentException> ARGUMENT = IllegalArgumentException.class;
    private static final Class<NoSuchElementException> NO_SUCH = NoSuchElementException.class;
    private static final Class<ArithmeticException> BY_ZERO = ArithmeticException.class;
    private static final Due due = new Due("CountsBoundsTest");
    private static final Edges fresh = new Edges(due, Made::fresh);
    private static final Edges mixed = new Edges(due, Made::mixed);

    public static void main(String[] args) {
        toldAnewInstead();
        noneAreToldAnyMore();
        howManyDifferences();
        countedRefuses();
        whatIsExpected();
        expectedRefuses();
        ofDifferenceI();
        differRefuses();
        aHundredTimesAPart();
        oneIsBelow0();
        allIs0();
        countOfAll60();
        countOfDifferencesBelow0();
        countOfActs();
        anotherWhat();
        due.end();
    }

    private static void toldAnewInstead() {
        due.by("So many pieces are counted (told anew: instead)");
        ExplainDifference x = new ExplainDifference();
        due.is("100000", 1, () -> x.counted(0, 0, 100000));
        due.is("counted less expected", 100000, () -> x.differ(0, 2));
        due.is("anew", 1, () -> x.counted(0, 0, 1));
        due.is("not added", 1, () -> x.differ(0, 2));
        due.is("the same anew", 1, () -> x.counted(0, 0, 1));
        due.is("one place and good", 1, () -> x.count(6));
        due.is("0 anew", 0, () -> x.counted(0, 0, 0));
        due.is("still counted", 1, () -> x.count(6));
        due.is("100000 anew", 1, () -> x.counted(0, 0, 100000));
        due.is("counted less expected", 100000, () -> x.differ(0, 2));
    }

    private static void noneAreToldAnyMore() {
        due.by("-1: none are told any more");
        ExplainDifference x = Made.puts(5);
        due.is("none were told", 0, () -> x.counted(0, 0, -1));
        due.is("counted", 0, () -> x.count(6));
        due.is("told", 1, () -> x.counted(0, 0, 4));
        due.is("told of another", 2, () -> x.counted(9, 5, 1));
        due.is("no more", 1, () -> x.counted(0, 0, -1));
        due.is("no more, twice", 1, () -> x.counted(0, 0, -1));
        due.is("the other is left", 9, () -> x.differ(0, 0));
        due.is("counted", 1, () -> x.count(6));
        due.is("told again", 2, () -> x.counted(0, 0, 4));
        due.is("-1 is no number of pieces", -1, () -> x.differ(0, 2));
        ExplainDifference below = new ExplainDifference();
        below.take(0, 0, 1, 0);
        due.is("-1 are expected", -1, () -> below.expected(0, 0));
        due.is("none are told", 0, () -> below.counted(0, 0, -1));
        due.is("so none are counted", 0, () -> below.count(6));
        due.is("and it is no candidate", 0, () -> below.count(3));
    }

    private static void howManyDifferences() {
        due.by("how many differences there are (counted)");
        ExplainDifference x = new ExplainDifference();
        for (int cell = 0; cell < 60; cell++) {
            int c = cell;
            due.is("one more", c + 1, () -> x.counted(c / 6, c % 6, 1));
        }
        for (int cell = 0; cell < 60; cell++) {
            int c = cell;
            int n = c % 2 == 0 ? 0 : -1;
            due.is("one less", 59 - c, () -> x.counted(c / 6, c % 6, n));
        }
    }

    private static void countedRefuses() {
        due.by("IllegalArgumentException (counted)");
        mixed.beyond("pieces", -1, 100000, ARGUMENT, (x, n) -> x.counted(0, 0, n));
        mixed.beyond("place", 0, 9, ARGUMENT, (x, n) -> x.counted(n, 0, 3));
        mixed.beyond("good", 0, 5, ARGUMENT, (x, n) -> x.counted(0, n, 3));
        mixed.beyond("place, none told", 0, 9, ARGUMENT, (x, n) -> x.counted(n, 0, -1));
        mixed.beyond("good, none told", 0, 5, ARGUMENT, (x, n) -> x.counted(0, n, -1));
        mixed.beyond("all", -1, 100000, ARGUMENT, (x, n) -> x.counted(n, n, n));
    }

    private static void whatIsExpected() {
        due.by("What is expected");
        mixed.allowed("puts", 10, x -> x.expected(0, 0));
        mixed.allowed("an omitted take", 0, x -> x.expected(2, 2));
        mixed.allowed("went by a doubled move", -6, x -> x.expected(0, 1));
        mixed.allowed("came by a doubled move", 6, x -> x.expected(1, 1));
        mixed.allowed("no act", 0, x -> x.expected(9, 5));
        ExplainDifference x = Made.mixed();
        due.is("back from doubled", 2, () -> x.back(2));
        due.is("went once", -3, () -> x.expected(0, 1));
        due.is("came once", 3, () -> x.expected(1, 1));
        due.is("back from omitted", 3, () -> x.back(3));
        due.is("taken once", -4, () -> x.expected(2, 2));
    }

    private static void expectedRefuses() {
        due.by("IllegalArgumentException (expected)");
        mixed.beyond("place", 0, 9, ARGUMENT, (x, n) -> x.expected(n, 0));
        mixed.beyond("good", 0, 5, ARGUMENT, (x, n) -> x.expected(0, n));
        mixed.beyond("both", 0, 9, ARGUMENT, (x, n) -> x.expected(n, n));
    }

    private static void ofDifferenceI() {
        due.by("Of difference i 0 its place, 1 good, 2 counted less expected");
        ExplainDifference x = new ExplainDifference();
        for (int cell = 59; cell >= 0; cell--) {
            x.counted(cell / 6, cell % 6, cell + 1);
        }
        for (int cell = 0; cell < 60; cell++) {
            int c = cell;
            due.is("place of " + c, c / 6, () -> x.differ(c, 0));
            due.is("good of " + c, c % 6, () -> x.differ(c, 1));
            due.is("difference " + c, c + 1, () -> x.differ(c, 2));
        }
        for (int what = 0; what <= 2; what++) {
            int w = what;
            for (int i : new int[] {-1, 60, Integer.MIN_VALUE, Integer.MAX_VALUE}) {
                due.refuses("no difference " + i, NO_SUCH, () -> x.differ(i, w));
            }
        }
    }

    private static void differRefuses() {
        due.by("NoSuchElementException, IllegalArgumentException (differ)");
        mixed.allowed("what 0", 0, x -> x.differ(0, 0));
        mixed.allowed("what 2", -5, x -> x.differ(0, 2));
        mixed.beyond("what", 0, 2, ARGUMENT, (x, n) -> x.differ(0, n));
        mixed.beyond("i", 0, 0, NO_SUCH, (x, n) -> x.differ(n, 0));
        mixed.beyond("i, what 2", 0, 0, NO_SUCH, (x, n) -> x.differ(n, 2));
        mixed.refused("the difference first", NO_SUCH, x -> x.differ(1, 3));
        mixed.refused("the difference first", NO_SUCH, x -> x.differ(-1, -1));
        fresh.refused("none: what 0", NO_SUCH, x -> x.differ(0, 0));
        fresh.refused("none: what 3", NO_SUCH, x -> x.differ(0, 3));
        Edges agreeing = fresh.after(x -> x.put(0, 0, 5, 0), x -> x.counted(0, 0, 5));
        agreeing.refused("counted, and no difference", NO_SUCH, x -> x.differ(0, 0));
    }

    private static void aHundredTimesAPart() {
        due.by("A hundred times a part divided by all (rests are dropped)");
        int[][] want = {
            {0, 1, 0}, {0, Integer.MAX_VALUE, 0}, {1, 1, 100}, {1, 2, 50}, {1, 3, 33}, {2, 3, 66},
            {99, 100, 99}, {999, 1000, 99}, {1, 100, 1}, {1, 101, 0}, {199, 200, 99}, {3, 2, 150},
            {1000000, 1, 100000000}, {999999, 1, 99999900}, {1000000, 1000000, 100},
            {1000000, 100000000, 1}, {1000000, 100000001, 0}, {1000000, Integer.MAX_VALUE, 0},
            {999999, 1000000, 99},
        };
        for (int[] w : want) {
            fresh.allowed("share(" + w[0] + ", " + w[1] + ")", w[2], x -> x.share(w[0], w[1]));
        }
        mixed.allowed("whatever there is", 33, x -> x.share(1, 3));
    }

    private static void oneIsBelow0() {
        due.by("IllegalArgumentException: one is below 0, or part above 1000000");
        mixed.beyond("part", 0, 1000000, ARGUMENT, (x, n) -> x.share(n, 1));
        mixed.beyond("part of nothing", 0, 1000000, ARGUMENT, (x, n) -> x.share(n, 0));
        mixed.beyond("part of the most", 0, 1000000, ARGUMENT,
                (x, n) -> x.share(n, Integer.MAX_VALUE));
        mixed.refused("all -1", ARGUMENT, x -> x.share(1, -1));
        mixed.refused("all -1 of part 0", ARGUMENT, x -> x.share(0, -1));
        mixed.refused("the least all", ARGUMENT, x -> x.share(0, Integer.MIN_VALUE));
        mixed.refused("both", ARGUMENT, x -> x.share(-1, -1));
        mixed.refused("both the least", ARGUMENT,
                x -> x.share(Integer.MIN_VALUE, Integer.MIN_VALUE));
    }

    private static void allIs0() {
        due.by("ArithmeticException (the machine's own): all is 0");
        mixed.refused("part 0", BY_ZERO, x -> x.share(0, 0));
        mixed.refused("part 1", BY_ZERO, x -> x.share(1, 0));
        mixed.refused("the greatest part", BY_ZERO, x -> x.share(1000000, 0));
        fresh.refused("nothing yet", BY_ZERO, x -> x.share(0, 0));
    }

    private static void countOfAll60() {
        due.by("1 differences, 2 pieces of all differences together, 6 places and goods counted");
        ExplainDifference x = new ExplainDifference();
        for (int cell = 0; cell < 60; cell++) {
            x.counted(cell / 6, cell % 6, 100000);
        }
        due.is("differences", 60, () -> x.count(1));
        due.is("pieces", 6000000, () -> x.count(2));
        due.is("counted", 60, () -> x.count(6));
        for (int cell = 0; cell < 60; cell++) {
            x.counted(cell / 6, cell % 6, 0);
        }
        due.is("no differences", 0, () -> x.count(1));
        due.is("no pieces", 0, () -> x.count(2));
        due.is("0 pieces are counted too", 60, () -> x.count(6));
        for (int cell = 0; cell < 60; cell++) {
            x.counted(cell / 6, cell % 6, -1);
        }
        due.is("none are", 0, () -> x.count(6));
    }

    private static void countOfDifferencesBelow0() {
        due.by("2 pieces of all differences together (those below 0 without the sign)");
        ExplainDifference x = new ExplainDifference();
        x.put(0, 0, 7, 0);
        x.take(0, 1, 2, 0);
        due.is("below 0", 1, () -> x.counted(0, 0, 0));
        due.is("without the sign", 7, () -> x.count(2));
        due.is("above 0, as much", 2, () -> x.counted(0, 1, 5));
        due.is("they do not make up for each other", 14, () -> x.count(2));
        due.is("as expected: no difference", 1, () -> x.counted(0, 0, 7));
        due.is("pieces", 7, () -> x.count(2));
        x.put(5, 5, 1000, 0);
        due.is("what is not counted is no difference", 7, () -> x.count(2));
    }

    private static void countOfActs() {
        due.by("0 acts, .. 3 candidates, 4 acts omitted, 5 doubled, .. 7 changes of the explanation");
        int[] want = {4, 1, 5, 1, 1, 1, 3, 1};
        for (int what = 0; what <= 7; what++) {
            int w = what;
            mixed.allowed("count(" + w + ")", want[w], x -> x.count(w));
        }
        ExplainDifference x = Made.full();
        due.is("24 acts", 24, () -> x.count(0));
        for (int cell = 0; cell < 60; cell++) {
            x.counted(cell / 6, cell % 6, 0);
        }
        due.is("24 candidates", 24, () -> x.count(3));
        ExplainDifference y = Made.mixed();
        y.accept();
        due.is("two omitted", 2, () -> y.count(4));
        due.is("no explanation", 0, () -> y.count(7));
        y.back(2);
        due.is("none doubled", 0, () -> y.count(5));
        y.back(0);
        y.back(3);
        due.is("none omitted", 0, () -> y.count(4));
    }

    private static void anotherWhat() {
        due.by("-1 for another what");
        for (int what : new int[] {-1, 8, 9, Integer.MIN_VALUE, Integer.MAX_VALUE}) {
            fresh.allowed("nothing yet, " + what, -1, x -> x.count(what));
            mixed.allowed("" + what, -1, x -> x.count(what));
        }
    }
}
