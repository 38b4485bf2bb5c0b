import java.util.NoSuchElementException;

/** Promises 1 to 5 (a new object, put, take, move, closed), 19 told and 20 of. */
public final class ActsTest {
    private static final Class<IllegalArgumentException> ARGUMENT = IllegalArgumentException.class;
    private static final Class<NoSuchElementException> NO_SUCH = NoSuchElementException.class;
    private static final Class<UnsupportedOperationException> NO_ROOM =
            UnsupportedOperationException.class;
    private static final Due due = new Due("ActsTest");

    public static void main(String[] args) {
        aNewObject();
        actsAreNumberedAndTold();
        rangesOfPutAndTake();
        rangesOfMove();
        timesDoNotGoBack();
        refusedActsLeaveNothing();
        twentyFourActs();
        closing();
        tellingRefuses();
        actsOfACell();
        due.end();
    }

    private static void aNewObject() {
        ExplainDifference x = new ExplainDifference();
        for (int what = 0; what <= 7; what++) {
            int w = what;
            due.is("new count(" + w + ")", 0, () -> x.count(w));
        }
        for (int cell = 0; cell < 60; cell++) {
            int place = cell / 6;
            int good = cell % 6;
            due.is("new expected", 0, () -> x.expected(place, good));
            due.is("new of", -1, () -> x.of(place, good, 0));
        }
        due.is("new exact", 0, () -> x.exact() ? 1 : 0);
        due.is("new steps", 0, () -> x.steps());
        due.is("new ties", 0, () -> x.ties());
        due.refuses("new told", NO_SUCH, () -> x.told(0, 0));
        due.refuses("new differ", NO_SUCH, () -> x.differ(0, 0));
        due.refuses("new found", NO_SUCH, () -> x.found(0, 0));
        due.refuses("new often", NO_SUCH, () -> x.often(0));
        due.refuses("new accept", IllegalStateException.class, () -> x.accept());
    }

    private static void actsAreNumberedAndTold() {
        ExplainDifference x = new ExplainDifference();
        due.is("put", 0, () -> x.put(3, 2, 11, 7));
        due.is("take", 1, () -> x.take(4, 5, 1000, 7));
        due.is("move", 2, () -> x.move(9, 0, 1, 1, 10000));
        tells(x, 0, new int[] {0, 3, -1, 2, 11, 7, 0, 0, 0});
        tells(x, 1, new int[] {1, 4, -1, 5, 1000, 7, 0, 0, 0});
        tells(x, 2, new int[] {2, 9, 0, 1, 1, 10000, 0, 0, 0});
        due.is("put makes expected", 11, () -> x.expected(3, 2));
        due.is("take makes expected", -1000, () -> x.expected(4, 5));
        due.is("move from", -1, () -> x.expected(9, 1));
        due.is("move to", 1, () -> x.expected(0, 1));
        due.is("acts", 3, () -> x.count(0));
    }

    private static void tells(ExplainDifference x, int act, int[] want) {
        for (int what = 0; what < want.length; what++) {
            int w = what;
            due.is("told(" + act + ", " + w + ")", want[w], () -> x.told(act, w));
        }
    }

    private static void rangesOfPutAndTake() {
        ExplainDifference x = new ExplainDifference();
        int[][] wrong = {
            {-1, 0, 1, 0}, {10, 0, 1, 0}, {0, -1, 1, 0}, {0, 6, 1, 0}, {0, 0, 0, 0},
            {0, 0, -1, 0}, {0, 0, 1001, 0}, {0, 0, 1, -1}, {0, 0, 1, 10001},
            {Integer.MIN_VALUE, 0, 1, 0}, {Integer.MAX_VALUE, 0, 1, 0},
            {0, Integer.MAX_VALUE, 1, 0}, {0, 0, Integer.MAX_VALUE, 0},
            {0, 0, 1, Integer.MIN_VALUE},
        };
        for (int[] w : wrong) {
            due.refuses("put", ARGUMENT, () -> x.put(w[0], w[1], w[2], w[3]));
            due.refuses("take", ARGUMENT, () -> x.take(w[0], w[1], w[2], w[3]));
        }
        due.is("least put", 0, () -> x.put(0, 0, 1, 0));
        due.is("least take", 1, () -> x.take(0, 0, 1, 0));
        due.is("greatest put", 2, () -> x.put(9, 5, 1000, 10000));
        due.is("greatest take", 3, () -> x.take(9, 5, 1000, 10000));
    }

    private static void rangesOfMove() {
        ExplainDifference x = new ExplainDifference();
        int[][] wrong = {
            {-1, 0, 0, 1, 0}, {10, 0, 0, 1, 0}, {0, -1, 0, 1, 0}, {0, 10, 0, 1, 0},
            {0, 1, -1, 1, 0}, {0, 1, 6, 1, 0}, {0, 1, 0, 0, 0}, {0, 1, 0, 1001, 0},
            {0, 1, 0, 1, -1}, {0, 1, 0, 1, 10001}, {0, 0, 0, 1, 0}, {9, 9, 5, 1, 0},
        };
        for (int[] w : wrong) {
            due.refuses("move", ARGUMENT, () -> x.move(w[0], w[1], w[2], w[3], w[4]));
        }
        due.is("move there", 0, () -> x.move(0, 9, 0, 1, 0));
        due.is("move back", 1, () -> x.move(9, 0, 5, 1000, 10000));
        due.refuses("move before the last", ARGUMENT, () -> x.move(9, 0, 5, 1000, 9999));
    }

    private static void timesDoNotGoBack() {
        ExplainDifference x = new ExplainDifference();
        x.put(0, 0, 1, 500);
        due.refuses("put before", ARGUMENT, () -> x.put(1, 1, 1, 499));
        due.refuses("take before", ARGUMENT, () -> x.take(1, 1, 1, 499));
        due.refuses("move before", ARGUMENT, () -> x.move(1, 2, 1, 1, 499));
        due.is("at the same time", 1, () -> x.take(1, 1, 1, 500));
        due.is("later", 2, () -> x.move(1, 2, 1, 1, 501));
        due.refuses("before the last, not the first", ARGUMENT, () -> x.put(1, 1, 1, 500));
    }

    private static void refusedActsLeaveNothing() {
        ExplainDifference x = new ExplainDifference();
        due.refuses("move", ARGUMENT, () -> x.move(0, 10, 0, 5, 100));
        due.is("no act", 0, () -> x.count(0));
        due.is("nothing expected", 0, () -> x.expected(0, 0));
        due.is("no time kept", 0, () -> x.put(0, 0, 1, 0));
    }

    private static void twentyFourActs() {
        ExplainDifference x = new ExplainDifference();
        for (int act = 0; act < 24; act++) {
            int a = act;
            due.is("act " + a, a, () -> x.put(a % 10, a % 6, 1000, a));
        }
        due.refuses("a 25th put", NO_ROOM, () -> x.put(0, 0, 1, 23));
        due.refuses("a 25th take", NO_ROOM, () -> x.take(0, 0, 1, 10000));
        due.refuses("a 25th move", NO_ROOM, () -> x.move(0, 1, 0, 1, 23));
        due.refuses("put: number before room", ARGUMENT, () -> x.put(10, 0, 1, 23));
        due.refuses("take: time before room", ARGUMENT, () -> x.take(0, 0, 1, 22));
        due.refuses("move: same place before room", ARGUMENT, () -> x.move(4, 4, 0, 1, 23));
        due.is("acts", 24, () -> x.count(0));
        due.is("the last act", 23, () -> x.told(23, 5));
        due.is("expected is kept", 1000, () -> x.expected(0, 0));
        due.refuses("act 24", NO_SUCH, () -> x.told(24, 0));
        due.refuses("closed 24", NO_SUCH, () -> x.closed(24, true));
        due.refuses("often 24", NO_SUCH, () -> x.often(24));
        due.refuses("back 24", NO_SUCH, () -> x.back(24));
    }

    private static void closing() {
        ExplainDifference x = new ExplainDifference();
        due.refuses("no act yet", NO_SUCH, () -> x.closed(0, true));
        x.put(0, 0, 5, 0);
        x.put(0, 0, 6, 0);
        x.counted(0, 0, 11);
        due.is("a candidate", 1, () -> x.told(1, 8));
        due.is("close 1", 1, () -> x.closed(1, true));
        due.is("close 1 again", 1, () -> x.closed(1, true));
        due.is("told closed", 1, () -> x.told(1, 7));
        due.is("not closed", 0, () -> x.told(0, 7));
        due.is("no candidate", 0, () -> x.told(1, 8));
        due.is("candidates", 1, () -> x.count(3));
        due.is("close 0", 2, () -> x.closed(0, true));
        due.is("open 1", 1, () -> x.closed(1, false));
        due.is("open 1 again", 1, () -> x.closed(1, false));
        due.is("a candidate again", 1, () -> x.told(1, 8));
        due.is("expected as before", 11, () -> x.expected(0, 0));
        due.refuses("act -1", NO_SUCH, () -> x.closed(-1, true));
        due.refuses("act 2", NO_SUCH, () -> x.closed(2, false));
    }

    private static void tellingRefuses() {
        ExplainDifference x = new ExplainDifference();
        x.put(0, 0, 5, 0);
        due.refuses("what -1", ARGUMENT, () -> x.told(0, -1));
        due.refuses("what 9", ARGUMENT, () -> x.told(0, 9));
        due.refuses("act -1", NO_SUCH, () -> x.told(-1, 0));
        due.refuses("act 1", NO_SUCH, () -> x.told(1, 0));
        due.refuses("the act first", NO_SUCH, () -> x.told(1, 9));
        due.refuses("the act first", NO_SUCH, () -> x.told(Integer.MIN_VALUE, -1));
    }

    private static void actsOfACell() {
        ExplainDifference x = new ExplainDifference();
        x.put(2, 3, 5, 0);
        x.put(2, 4, 5, 0);
        x.take(2, 3, 1, 0);
        x.move(2, 5, 3, 1, 0);
        x.move(5, 2, 3, 2, 0);
        x.put(3, 3, 5, 0);
        int[] at23 = {0, 2, 3, 4, -1, -1};
        for (int i = 0; i < at23.length; i++) {
            int n = i;
            due.is("of(2, 3, " + n + ")", at23[n], () -> x.of(2, 3, n));
        }
        due.is("of(5, 3, 0)", 3, () -> x.of(5, 3, 0));
        due.is("of(5, 3, 1)", 4, () -> x.of(5, 3, 1));
        due.is("of(5, 3, 2)", -1, () -> x.of(5, 3, 2));
        due.is("of(9, 5, 0)", -1, () -> x.of(9, 5, 0));
        due.is("a great i", -1, () -> x.of(2, 3, Integer.MAX_VALUE));
        x.counted(2, 4, 0);
        x.search(1, 10);
        x.accept();
        due.is("an omitted act is still of its place", 1, () -> x.of(2, 4, 0));
        due.refuses("place -1", ARGUMENT, () -> x.of(-1, 0, 0));
        due.refuses("place 10", ARGUMENT, () -> x.of(10, 0, 0));
        due.refuses("good -1", ARGUMENT, () -> x.of(0, -1, 0));
        due.refuses("good 6", ARGUMENT, () -> x.of(0, 6, 0));
        due.refuses("i -1", ARGUMENT, () -> x.of(0, 0, -1));
    }
}
