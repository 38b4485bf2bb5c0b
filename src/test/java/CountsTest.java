import java.util.NoSuchElementException;

/** Promises 6 window, 7 counted, 8 expected, 9 differ, 18 share and 21 count. */
public final class CountsTest {
    private static final Class<IllegalArgumentException> ARGUMENT = IllegalArgumentException.class;
    private static final Class<NoSuchElementException> NO_SUCH = NoSuchElementException.class;
    private static final Due due = new Due("CountsTest");

    public static void main(String[] args) {
        windowLeavesActsOut();
        windowRefuses();
        candidatesAreOfCountedCells();
        countedToldAnewAndNoMore();
        countedRefuses();
        expectedOfAllKinds();
        expectedRefuses();
        differencesInOrder();
        differRefuses();
        shares();
        counts();
        due.end();
    }

    private static void windowLeavesActsOut() {
        ExplainDifference x = new ExplainDifference();
        due.is("no acts", 0, () -> x.window(0, 10000));
        x.put(0, 0, 1, 0);
        x.put(0, 0, 1, 10);
        x.put(0, 0, 1, 20);
        x.put(0, 0, 1, 10000);
        due.is("nothing counted", 0, () -> x.window(0, 10000));
        x.counted(0, 0, 4);
        due.is("all", 4, () -> x.window(0, 10000));
        due.is("both ends", 2, () -> x.window(10, 20));
        due.is("told in", 1, () -> x.told(1, 8));
        due.is("told out", 0, () -> x.told(3, 8));
        due.is("behind the beginning", 1, () -> x.window(11, 20));
        due.is("before the end", 1, () -> x.window(10, 19));
        due.is("one time", 1, () -> x.window(10000, 10000));
        due.is("first time", 1, () -> x.window(0, 0));
        due.is("none", 0, () -> x.window(11, 19));
        due.is("count", 0, () -> x.count(3));
    }

    private static void windowRefuses() {
        ExplainDifference x = new ExplainDifference();
        x.put(0, 0, 1, 15);
        x.counted(0, 0, 0);
        due.is("window", 1, () -> x.window(10, 20));
        due.refuses("from -1", ARGUMENT, () -> x.window(-1, 5));
        due.refuses("from 10001", ARGUMENT, () -> x.window(10001, 10001));
        due.refuses("to 10001", ARGUMENT, () -> x.window(0, 10001));
        due.refuses("to -1", ARGUMENT, () -> x.window(0, -1));
        due.refuses("ends before", ARGUMENT, () -> x.window(21, 20));
        due.is("a refused window is not taken", 1, () -> x.count(3));
    }

    private static void candidatesAreOfCountedCells() {
        ExplainDifference x = new ExplainDifference();
        x.put(0, 0, 5, 0);
        x.put(0, 1, 5, 0);
        x.move(1, 0, 0, 2, 0);
        x.move(0, 1, 0, 2, 0);
        x.take(1, 1, 2, 0);
        x.counted(0, 0, 5);
        due.is("candidates without a difference", 3, () -> x.count(3));
        due.is("differences", 0, () -> x.count(1));
        due.is("put", 1, () -> x.told(0, 8));
        due.is("another good", 0, () -> x.told(1, 8));
        due.is("a move to it", 1, () -> x.told(2, 8));
        due.is("a move from it", 1, () -> x.told(3, 8));
        due.is("another place", 0, () -> x.told(4, 8));
        x.counted(0, 0, -1);
        due.is("no candidates any more", 0, () -> x.count(3));
        x.counted(1, 1, 0);
        due.is("take", 1, () -> x.told(4, 8));
    }

    private static void countedToldAnewAndNoMore() {
        ExplainDifference x = new ExplainDifference();
        due.is("nothing told any more, nor before", 0, () -> x.counted(3, 3, -1));
        due.is("0 is 0", 0, () -> x.counted(3, 3, 0));
        due.is("counted cells", 1, () -> x.count(6));
        due.is("100000", 1, () -> x.counted(3, 3, 100000));
        due.is("told anew", 1, () -> x.differ(0, 2) == 100000 ? 1 : 0);
        due.is("another", 2, () -> x.counted(4, 3, 1));
        due.is("as expected", 1, () -> x.counted(3, 3, 0));
        due.is("counted cells", 2, () -> x.count(6));
        due.is("none", 0, () -> x.counted(4, 3, -1));
        due.is("counted cells", 1, () -> x.count(6));
        x.put(3, 3, 4, 0);
        due.is("a new act makes a difference", 1, () -> x.count(1));
        due.is("difference", -4, () -> x.differ(0, 2));
    }

    private static void countedRefuses() {
        ExplainDifference x = new ExplainDifference();
        x.counted(0, 0, 3);
        due.refuses("place -1", ARGUMENT, () -> x.counted(-1, 0, 0));
        due.refuses("place 10", ARGUMENT, () -> x.counted(10, 0, 0));
        due.refuses("good -1", ARGUMENT, () -> x.counted(0, -1, 0));
        due.refuses("good 6", ARGUMENT, () -> x.counted(0, 6, 0));
        due.refuses("n -2", ARGUMENT, () -> x.counted(0, 0, -2));
        due.refuses("n 100001", ARGUMENT, () -> x.counted(0, 0, 100001));
        due.is("as before", 3, () -> x.differ(0, 2));
    }

    private static void expectedOfAllKinds() {
        ExplainDifference x = new ExplainDifference();
        x.put(1, 1, 10, 0);
        x.take(1, 1, 3, 0);
        x.move(1, 2, 1, 20, 0);
        x.move(2, 3, 1, 4, 0);
        due.is("below 0", -13, () -> x.expected(1, 1));
        due.is("came and went", 16, () -> x.expected(2, 1));
        due.is("came", 4, () -> x.expected(3, 1));
        due.is("another good", 0, () -> x.expected(1, 0));
        x.counted(3, 1, 0);
        x.search(1, 10);
        x.accept();
        due.is("omitted: from", 20, () -> x.expected(2, 1));
        due.is("omitted: to", 0, () -> x.expected(3, 1));
        x.counted(2, 1, 40);
        x.search(1, 10);
        x.accept();
        due.is("doubled: from", -33, () -> x.expected(1, 1));
        due.is("doubled: to", 40, () -> x.expected(2, 1));
    }

    private static void expectedRefuses() {
        ExplainDifference x = new ExplainDifference();
        due.refuses("place -1", ARGUMENT, () -> x.expected(-1, 0));
        due.refuses("place 10", ARGUMENT, () -> x.expected(10, 0));
        due.refuses("good -1", ARGUMENT, () -> x.expected(0, -1));
        due.refuses("good 6", ARGUMENT, () -> x.expected(0, 6));
        due.is("the last cell", 0, () -> x.expected(9, 5));
    }

    private static void differencesInOrder() {
        ExplainDifference x = new ExplainDifference();
        x.put(5, 0, 9, 0);
        x.counted(9, 5, 1);
        x.counted(5, 0, 2);
        x.counted(4, 5, 3);
        x.counted(5, 1, 4);
        x.counted(4, 4, 0);
        x.counted(0, 0, 6);
        int[][] want = {{0, 0, 6}, {4, 5, 3}, {5, 0, -7}, {5, 1, 4}, {9, 5, 1}};
        for (int i = 0; i < want.length; i++) {
            for (int what = 0; what < 3; what++) {
                int n = i;
                int w = what;
                due.is("differ(" + n + ", " + w + ")", want[n][w], () -> x.differ(n, w));
            }
        }
        due.is("differences", 5, () -> x.count(1));
        due.is("pieces", 21, () -> x.count(2));
    }

    private static void differRefuses() {
        ExplainDifference x = new ExplainDifference();
        due.refuses("none", NO_SUCH, () -> x.differ(0, 0));
        x.counted(0, 0, 6);
        due.refuses("i -1", NO_SUCH, () -> x.differ(-1, 0));
        due.refuses("i 1", NO_SUCH, () -> x.differ(1, 0));
        due.refuses("what -1", ARGUMENT, () -> x.differ(0, -1));
        due.refuses("what 3", ARGUMENT, () -> x.differ(0, 3));
        due.refuses("the difference first", NO_SUCH, () -> x.differ(1, 3));
        for (int cell = 0; cell < 60; cell++) {
            x.counted(cell / 6, cell % 6, 1);
        }
        due.is("the last place", 9, () -> x.differ(59, 0));
        due.is("the last good", 5, () -> x.differ(59, 1));
        due.refuses("i 60", NO_SUCH, () -> x.differ(60, 0));
    }

    private static void shares() {
        ExplainDifference x = new ExplainDifference();
        due.is("a third", 33, () -> x.share(1, 3));
        due.is("two thirds", 66, () -> x.share(2, 3));
        due.is("nothing", 0, () -> x.share(0, 7));
        due.is("all", 100, () -> x.share(7, 7));
        due.is("more than all", 100000000, () -> x.share(1000000, 1));
        due.is("of much", 0, () -> x.share(1000000, Integer.MAX_VALUE));
        due.is("below one", 0, () -> x.share(1, 101));
        due.refuses("part -1", ARGUMENT, () -> x.share(-1, 1));
        due.refuses("part 1000001", ARGUMENT, () -> x.share(1000001, 1));
        due.refuses("all -1", ARGUMENT, () -> x.share(1, -1));
        due.refuses("all 0", ArithmeticException.class, () -> x.share(1, 0));
        due.refuses("0 of 0", ArithmeticException.class, () -> x.share(0, 0));
        due.refuses("the number first", ARGUMENT, () -> x.share(-1, 0));
        due.refuses("the number first", ARGUMENT, () -> x.share(1000001, 0));
    }

    private static void counts() {
        ExplainDifference x = new ExplainDifference();
        x.put(0, 0, 5, 0);
        x.put(0, 1, 6, 0);
        x.put(0, 2, 7, 0);
        x.put(0, 3, 8, 0);
        x.put(9, 5, 9, 0);
        x.counted(0, 0, 0);
        x.counted(0, 1, 12);
        x.counted(0, 2, 14);
        x.counted(0, 3, 8);
        countsAre(x, new int[] {5, 3, 18, 4, 0, 0, 4, 0});
        x.search(4, 20000);
        countsAre(x, new int[] {5, 3, 18, 4, 0, 0, 4, 3});
        x.accept();
        countsAre(x, new int[] {5, 0, 0, 1, 1, 2, 4, 0});
        due.is("count(-1)", -1, () -> x.count(-1));
        due.is("count(8)", -1, () -> x.count(8));
        due.is("count(least)", -1, () -> x.count(Integer.MIN_VALUE));
        due.is("count(greatest)", -1, () -> x.count(Integer.MAX_VALUE));
    }

    private static void countsAre(ExplainDifference x, int[] want) {
        for (int what = 0; what < want.length; what++) {
            int w = what;
            due.is("count(" + w + ")", want[w], () -> x.count(w));
        }
    }
}
