import java.util.NoSuchElementException;

/** The bounds of promises 1 to 6 (a new object, put, take, move, closed, window), 19 told, 20 of. */
public final class ActsBoundsTest {
    private static final Class<IllegalArgumentException> ARGUMENT = IllegalArgumentException.class;
    private static final Class<NoSuchElementException> NO_SUCH = NoSuchElementException.class;
    private static final Class<IllegalStateException> STATE = IllegalStateException.class;
    private static final Due due = new Due("ActsBoundsTest");
    private static final Edges fresh = new Edges(due, Made::fresh);
    private static final Edges mixed = new Edges(due, Made::mixed);
    private static final Edges full = new Edges(due, Made::full);

    public static void main(String[] args) {
        noActsNothingCounted();
        whatIsNotThereYet();
        objectsHaveNothingInCommon();
        theLastCallsOfAnObject();
        theActsNumber();
        actsAtTheEdges();
        closedHowManyAre();
        closedWithoutSuchAnAct();
        closedActsOfAllKinds();
        bothTimesCounted();
        windowAtFirst();
        windowEndsBeforeItBegins();
        toldAtTheEdges();
        toldOfClosedAndCandidates();
        toldRefuses();
        theIthAct();
        notSoMany();
        ofRefuses();
        due.end();
    }

    private static void noActsNothingCounted() {
        due.by("No acts, nothing counted");
        for (int what = 0; what <= 7; what++) {
            int w = what;
            fresh.allowed("count(" + w + ")", 0, x -> x.count(w));
        }
        ExplainDifference x = Made.fresh();
        for (int cell = 0; cell < 60; cell++) {
            int c = cell;
            due.is("expected", 0, () -> x.expected(c / 6, c % 6));
            due.is("of", -1, () -> x.of(c / 6, c % 6, 0));
        }
        fresh.allowed("no candidates", 0, y -> y.window(0, 10000));
        fresh.allowed("no differences", 0, y -> y.search(4, 20000));
        fresh.allowed("0 pieces are as many as expected", 0, y -> y.counted(0, 0, 0));
        fresh.allowed("nothing told to be told no more", 0, y -> y.counted(0, 0, -1));
        fresh.allowed("exact", 0, y -> y.exact() ? 1 : 0);
        fresh.allowed("steps", 0, y -> y.steps());
        fresh.allowed("ties", 0, y -> y.ties());
    }

    private static void whatIsNotThereYet() {
        due.by("No acts, nothing counted");
        fresh.beyond("closed, on", 0, -1, NO_SUCH, (x, n) -> x.closed(n, true));
        fresh.beyond("closed, off", 0, -1, NO_SUCH, (x, n) -> x.closed(n, false));
        fresh.beyond("told", 0, -1, NO_SUCH, (x, n) -> x.told(n, 0));
        fresh.beyond("often", 0, -1, NO_SUCH, (x, n) -> x.often(n));
        fresh.beyond("back", 0, -1, NO_SUCH, (x, n) -> x.back(n));
        fresh.beyond("differ", 0, -1, NO_SUCH, (x, n) -> x.differ(n, 0));
        fresh.beyond("found", 0, -1, NO_SUCH, (x, n) -> x.found(n, 0));
        fresh.refused("accept", STATE, x -> x.accept());
    }

    private static void objectsHaveNothingInCommon() {
        due.by("No acts, nothing counted");
        String before = Look.at(Made.fresh());
        ExplainDifference one = Made.mixed();
        ExplainDifference other = Made.fresh();
        due.same("another object's acts are not this one's", before, Look.at(other));
        other.put(0, 0, 1, 0);
        other.counted(0, 0, 7);
        other.window(0, 0);
        other.search(4, 3);
        due.same("nor the other way", Look.at(Made.mixed()), Look.at(one));
    }

    private static void theLastCallsOfAnObject() {
        due.by("An object is used for at most 512 calls");
        ExplainDifference x = Made.puts(5, 5);
        due.is("call 3", 1, () -> x.counted(0, 0, 5));
        for (int call = 4; call <= 509; call++) {
            due.is("call " + call, 1, () -> x.search(4, 20000));
        }
        due.is("call 510", 0, () -> x.accept());
        due.refuses("call 511", STATE, () -> x.accept());
        due.is("call 512", 1, () -> x.back(0));
    }

    private static void theActsNumber() {
        due.by("the act's number");
        ExplainDifference x = new ExplainDifference();
        for (int act = 0; act < 24; act += 3) {
            int a = act;
            due.is("put", a, () -> x.put(0, 0, 1, a));
            due.refuses("a refused act gets none", ARGUMENT, () -> x.put(10, 0, 1, a));
            due.is("take", a + 1, () -> x.take(0, 0, 1, a));
            due.refuses("a refused act gets none", ARGUMENT, () -> x.take(0, 6, 1, a));
            due.is("move", a + 2, () -> x.move(0, 1, 0, 1, a));
            due.refuses("a refused act gets none", ARGUMENT, () -> x.move(1, 1, 0, 1, a));
            due.is("acts", a + 3, () -> x.count(0));
        }
    }

    private static void actsAtTheEdges() {
        due.by("Pieces are put at a place .. taken from a place .. moved");
        ExplainDifference least = new ExplainDifference();
        least.put(0, 0, 1, 0);
        least.take(0, 1, 1, 0);
        least.move(0, 9, 2, 1, 0);
        due.is("put", 1, () -> least.expected(0, 0));
        due.is("taken", -1, () -> least.expected(0, 1));
        due.is("went", -1, () -> least.expected(0, 2));
        due.is("came", 1, () -> least.expected(9, 2));
        ExplainDifference greatest = new ExplainDifference();
        greatest.put(9, 5, 1000, 10000);
        greatest.take(9, 4, 1000, 10000);
        greatest.move(9, 0, 3, 1000, 10000);
        due.is("put", 1000, () -> greatest.expected(9, 5));
        due.is("taken", -1000, () -> greatest.expected(9, 4));
        due.is("went", -1000, () -> greatest.expected(9, 3));
        due.is("came", 1000, () -> greatest.expected(0, 3));
        othersAre0(least, new int[] {0, 1, 2, 56});
        othersAre0(greatest, new int[] {59, 58, 57, 3});
    }

    private static void othersAre0(ExplainDifference x, int[] changed) {
        for (int cell = 0; cell < 60; cell++) {
            int c = cell;
            boolean isChanged = false;
            for (int other : changed) {
                isChanged |= other == c;
            }
            if (!isChanged) {
                due.is("no act is at place and good " + c, 0, () -> x.expected(c / 6, c % 6));
            }
        }
    }

    private static void closedHowManyAre() {
        due.by("An act is closed, or not: how many are");
        ExplainDifference x = Made.full();
        for (int act = 0; act < 24; act++) {
            int a = act;
            due.is("off, not on yet", a, () -> x.closed(a, false));
            due.is("on", a + 1, () -> x.closed(a, true));
            due.is("on again", a + 1, () -> x.closed(a, true));
        }
        due.refuses("no act 24", NO_SUCH, () -> x.closed(24, true));
        for (int act = 23; act >= 0; act--) {
            int a = act;
            due.is("off", a, () -> x.closed(a, false));
        }
    }

    private static void closedWithoutSuchAnAct() {
        due.by("NoSuchElementException: an act that there is not (closed)");
        mixed.allowed("the first", 2, x -> x.closed(0, true));
        mixed.allowed("the last", 2, x -> x.closed(3, true));
        mixed.allowed("the first, off", 1, x -> x.closed(0, false));
        mixed.allowed("the closed one, off", 0, x -> x.closed(1, false));
        mixed.beyond("on", 0, 3, NO_SUCH, (x, n) -> x.closed(n, true));
        mixed.beyond("off", 0, 3, NO_SUCH, (x, n) -> x.closed(n, false));
    }

    private static void closedActsOfAllKinds() {
        due.by("CANDIDATES are the plain acts that are not CLOSED");
        ExplainDifference x = Made.mixed();
        due.is("an omitted act is closed", 2, () -> x.closed(3, true));
        due.is("it is still omitted", 1, () -> x.told(3, 6));
        due.is("a doubled act is closed", 3, () -> x.closed(2, true));
        due.is("it is still doubled", 2, () -> x.told(2, 6));
        due.is("back, and still closed", 2, () -> x.back(3));
        due.is("closed", 1, () -> x.told(3, 7));
        due.is("plain, but no candidate", 0, () -> x.told(3, 8));
        due.is("open", 2, () -> x.closed(3, false));
        due.is("a candidate", 1, () -> x.told(3, 8));
        due.is("an act is not closed when it is added", 0, () -> x.told(x.put(0, 0, 1, 5), 7));
    }

    private static void bothTimesCounted() {
        due.by("The window, both times counted: how many candidates there are");
        ExplainDifference x = new ExplainDifference();
        x.put(0, 0, 1, 0);
        x.put(0, 0, 1, 1);
        x.put(0, 0, 1, 9999);
        x.put(0, 0, 1, 10000);
        x.counted(0, 0, 0);
        int[][] windows = {
            {0, 10000, 4}, {0, 9999, 3}, {1, 10000, 3}, {1, 9999, 2}, {0, 0, 1}, {1, 1, 1},
            {9999, 9999, 1}, {10000, 10000, 1}, {0, 1, 2}, {9999, 10000, 2}, {2, 9998, 0},
            {2, 9999, 1}, {1, 9998, 1}, {2, 2, 0},
        };
        for (int[] w : windows) {
            due.is("window(" + w[0] + ", " + w[1] + ")", w[2], () -> x.window(w[0], w[1]));
            due.is("count(3)", w[2], () -> x.count(3));
            for (int act = 0; act < 4; act++) {
                int a = act;
                int time = x.told(a, 5);
                due.is("told(" + a + ", 8)", w[0] <= time && time <= w[1] ? 1 : 0,
                        () -> x.told(a, 8));
            }
        }
    }

    private static void windowAtFirst() {
        due.by("WINDOW (0 .. 10000 at first)");
        ExplainDifference x = new ExplainDifference();
        x.put(0, 0, 1, 0);
        x.put(0, 0, 1, 10000);
        x.counted(0, 0, 0);
        due.is("the first time", 1, () -> x.told(0, 8));
        due.is("the last time", 1, () -> x.told(1, 8));
        due.is("candidates", 2, () -> x.count(3));
    }

    private static void windowEndsBeforeItBegins() {
        due.by("IllegalArgumentException: also if it ends before it begins");
        mixed.allowed("all times", 1, x -> x.window(0, 10000));
        mixed.allowed("one time", 1, x -> x.window(3, 3));
        mixed.refused("a time before", ARGUMENT, x -> x.window(3, 2));
        mixed.refused("1, 0", ARGUMENT, x -> x.window(1, 0));
        mixed.refused("10000, 9999", ARGUMENT, x -> x.window(10000, 9999));
        mixed.refused("10000, 0", ARGUMENT, x -> x.window(10000, 0));
        mixed.beyond("from", 0, 10000, ARGUMENT, (x, n) -> x.window(n, 10000));
        mixed.beyond("to", 0, 10000, ARGUMENT, (x, n) -> x.window(0, n));
        mixed.beyond("both", 0, 10000, ARGUMENT, (x, n) -> x.window(n, n));
        mixed.refused("all ints", ARGUMENT, x -> x.window(Integer.MIN_VALUE, Integer.MAX_VALUE));
        mixed.refused("and back", ARGUMENT, x -> x.window(Integer.MAX_VALUE, Integer.MIN_VALUE));
    }

    private static void toldAtTheEdges() {
        due.by("Of an act 0 its kind, 1 place, 2 to (-1 no move), 3 good, 4 pieces, 5 time, ..");
        ExplainDifference x = new ExplainDifference();
        x.put(0, 0, 1, 0);
        x.take(9, 5, 1000, 0);
        x.move(0, 9, 5, 1, 0);
        x.move(9, 0, 0, 1000, 10000);
        int[][] want = {
            {0, 0, -1, 0, 1, 0, 0, 0, 0}, {1, 9, -1, 5, 1000, 0, 0, 0, 0},
            {2, 0, 9, 5, 1, 0, 0, 0, 0}, {2, 9, 0, 0, 1000, 10000, 0, 0, 0},
        };
        for (int act = 0; act < 4; act++) {
            for (int what = 0; what <= 8; what++) {
                int a = act;
                int w = what;
                due.is("told(" + a + ", " + w + ")", want[a][w], () -> x.told(a, w));
            }
        }
        full.allowed("the 24th act", 123, y -> y.told(23, 5));
    }

    private static void toldOfClosedAndCandidates() {
        due.by("6 what it is (0 plain, 1 omitted, 2 doubled), 7 whether it is closed, 8 ..");
        int[][] want = {{0, 0, 1}, {0, 1, 0}, {2, 0, 0}, {1, 0, 0}};
        for (int act = 0; act < 4; act++) {
            for (int what = 6; what <= 8; what++) {
                int a = act;
                int w = what;
                mixed.allowed("told(" + a + ", " + w + ")", want[a][w - 6], x -> x.told(a, w));
            }
        }
        ExplainDifference x = new ExplainDifference();
        x.move(0, 1, 0, 1, 0);
        due.is("neither place counted", 0, () -> x.told(0, 8));
        x.counted(0, 1, 0);
        due.is("another good counted", 0, () -> x.told(0, 8));
        x.counted(2, 0, 0);
        due.is("another place counted", 0, () -> x.told(0, 8));
        x.counted(1, 0, 1);
        due.is("the place to which counted", 1, () -> x.told(0, 8));
        x.counted(0, 0, 0);
        due.is("both counted", 1, () -> x.told(0, 8));
        x.counted(1, 0, -1);
        due.is("the place from which counted", 1, () -> x.told(0, 8));
        x.counted(0, 0, -1);
        due.is("neither any more", 0, () -> x.told(0, 8));
    }

    private static void toldRefuses() {
        due.by("NoSuchElementException, IllegalArgumentException (told)");
        for (int act = 0; act < 4; act++) {
            int a = act;
            mixed.beyond("what", 0, 8, ARGUMENT, (x, n) -> x.told(a, n));
        }
        for (int what = 0; what <= 8; what++) {
            int w = what;
            mixed.beyond("act", 0, 3, NO_SUCH, (x, n) -> x.told(n, w));
        }
        mixed.refused("the act first", NO_SUCH, x -> x.told(4, 9));
        mixed.refused("the act first", NO_SUCH, x -> x.told(-1, -1));
    }

    private static void theIthAct() {
        due.by("The i-th act (upward) that changes a place and good");
        ExplainDifference x = Made.equalPuts(24, 1);
        for (int i = 0; i < 24; i++) {
            int n = i;
            due.is("of(0, 0, " + n + ")", n, () -> x.of(0, 0, n));
        }
        due.is("no 25th", -1, () -> x.of(0, 0, 24));
        ExplainDifference y = new ExplainDifference();
        y.move(9, 0, 5, 1, 0);
        y.put(9, 4, 1, 0);
        y.take(0, 5, 1, 0);
        y.put(8, 5, 1, 0);
        y.move(1, 9, 5, 1, 0);
        int[][] want = {{9, 5, 0, 0}, {9, 5, 1, 4}, {9, 5, 2, -1}, {0, 5, 0, 0}, {0, 5, 1, 2},
            {0, 5, 2, -1}, {9, 4, 0, 1}, {9, 4, 1, -1}, {8, 5, 0, 3}, {1, 5, 0, 4}, {0, 0, 0, -1}};
        for (int[] w : want) {
            due.is("of(" + w[0] + ", " + w[1] + ", " + w[2] + ")", w[3], () -> y.of(w[0], w[1], w[2]));
        }
    }

    private static void notSoMany() {
        due.by("-1 if there are not so many");
        fresh.allowed("no act", -1, x -> x.of(0, 0, 0));
        fresh.allowed("no act, the greatest i", -1, x -> x.of(0, 0, Integer.MAX_VALUE));
        mixed.allowed("the last", 1, x -> x.of(0, 0, 1));
        mixed.allowed("one more", -1, x -> x.of(0, 0, 2));
        mixed.allowed("as many as there are acts", -1, x -> x.of(0, 0, 4));
        mixed.allowed("more than acts can be", -1, x -> x.of(0, 0, 24));
        mixed.allowed("the greatest i", -1, x -> x.of(0, 0, Integer.MAX_VALUE));
        mixed.allowed("an omitted act changes it still", 3, x -> x.of(2, 2, 0));
        mixed.allowed("a doubled act changes it once", -1, x -> x.of(1, 1, 1));
    }

    private static void ofRefuses() {
        due.by("IllegalArgumentException (of)");
        mixed.refused("i -1", ARGUMENT, x -> x.of(0, 0, -1));
        mixed.refused("the least i", ARGUMENT, x -> x.of(0, 0, Integer.MIN_VALUE));
        mixed.beyond("place", 0, 9, ARGUMENT, (x, n) -> x.of(n, 0, 0));
        mixed.beyond("good", 0, 5, ARGUMENT, (x, n) -> x.of(0, n, 0));
        mixed.beyond("place, though there are not so many", 0, 9, ARGUMENT,
                (x, n) -> x.of(n, 0, Integer.MAX_VALUE));
        mixed.beyond("good, though there are not so many", 0, 5, ARGUMENT,
                (x, n) -> x.of(0, n, Integer.MAX_VALUE));
        fresh.refused("no act, i -1", ARGUMENT, x -> x.of(0, 0, -1));
    }
}
