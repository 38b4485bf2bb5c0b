import java.util.NoSuchElementException;

/** The bounds that the document names under "Terms", but for those of a search. */
public final class TermsBoundsTest {
    private static final Class<IllegalArgumentException> ARGUMENT = IllegalArgumentException.class;
    private static final Class<NoSuchElementException> NO_SUCH = NoSuchElementException.class;
    private static final Class<UnsupportedOperationException> NO_ROOM =
            UnsupportedOperationException.class;
    private static final Due due = new Due("TermsBoundsTest");
    private static final Edges fresh = new Edges(due, Made::fresh);
    private static final Edges mixed = new Edges(due, Made::mixed);
    private static final Edges full = new Edges(due, Made::full);

    public static void main(String[] args) {
        places();
        goods();
        times();
        atMost24Acts();
        pieces();
        toAnotherOne();
        notBeforeTheActBefore();
        notBeforeAnOmittedAct();
        plainOmittedDoubled();
        expectedMayBeBelow0();
        expectedAtItsFarthest();
        countedPieces();
        ifTheyAreTold();
        notTheExpectedOnes();
        inTheOrderOfPlaces();
        theFirstThatHolds();
        due.end();
    }

    private static void places() {
        due.by("PLACES are 0 .. 9");
        fresh.range("put", 0, 9, 0, (x, n) -> x.put(n, 0, 1, 0));
        fresh.range("take", 0, 9, 0, (x, n) -> x.take(n, 0, 1, 0));
        fresh.range("move from", 0, 9, 0, (x, n) -> x.move(n, 5, 0, 1, 0));
        fresh.range("move to", 0, 9, 0, (x, n) -> x.move(5, n, 0, 1, 0));
        fresh.range("counted", 0, 9, 1, (x, n) -> x.counted(n, 0, 1));
        fresh.range("expected", 0, 9, 0, (x, n) -> x.expected(n, 0));
        fresh.range("of", 0, 9, -1, (x, n) -> x.of(n, 0, 0));
        mixed.range("put", 0, 9, 4, (x, n) -> x.put(n, 0, 1, 5));
        mixed.range("take", 0, 9, 4, (x, n) -> x.take(n, 0, 1, 5));
        mixed.range("move from", 0, 9, 4, (x, n) -> x.move(n, 5, 0, 1, 5));
        mixed.range("move to", 0, 9, 4, (x, n) -> x.move(5, n, 0, 1, 5));
        mixed.range("counted", 0, 9, 2, (x, n) -> x.counted(n, 4, 1));
    }

    private static void goods() {
        due.by("GOODS 0 .. 5");
        fresh.range("put", 0, 5, 0, (x, n) -> x.put(0, n, 1, 0));
        fresh.range("take", 0, 5, 0, (x, n) -> x.take(0, n, 1, 0));
        fresh.range("move", 0, 5, 0, (x, n) -> x.move(0, 1, n, 1, 0));
        fresh.range("counted", 0, 5, 1, (x, n) -> x.counted(0, n, 1));
        fresh.range("expected", 0, 5, 0, (x, n) -> x.expected(0, n));
        fresh.range("of", 0, 5, -1, (x, n) -> x.of(0, n, 0));
        mixed.range("put", 0, 5, 4, (x, n) -> x.put(9, n, 1, 5));
        mixed.range("take", 0, 5, 4, (x, n) -> x.take(9, n, 1, 5));
        mixed.range("move", 0, 5, 4, (x, n) -> x.move(9, 8, n, 1, 5));
        mixed.range("counted", 0, 5, 2, (x, n) -> x.counted(9, n, 1));
    }

    private static void times() {
        due.by("TIMES 0 .. 10000");
        fresh.range("put", 0, 10000, 0, (x, n) -> x.put(0, 0, 1, n));
        fresh.range("take", 0, 10000, 0, (x, n) -> x.take(0, 0, 1, n));
        fresh.range("move", 0, 10000, 0, (x, n) -> x.move(0, 1, 0, 1, n));
        mixed.range("window from", 0, 10000, 0, (x, n) -> x.window(n, n == 0 ? 2 : 10000));
        mixed.range("window to", 0, 10000, 0, (x, n) -> x.window(n == 0 ? 0 : 4, n));
        mixed.range("a window of one time", 0, 10000, 0, (x, n) -> x.window(n, n));
    }

    private static void atMost24Acts() {
        due.by("ACTS 0, 1, .. (at most 24)");
        for (int kind = 0; kind < 3; kind++) {
            int k = kind;
            ExplainDifference x = new ExplainDifference();
            for (int act = 0; act < 24; act++) {
                due.is("an act of kind " + k, act, () -> add(x, k, 0, 1));
            }
            due.is("acts", 24, () -> x.count(0));
            due.refuses("the 25th of kind " + k, NO_ROOM, () -> add(x, k, 0, 1));
            due.is("acts as before", 24, () -> x.count(0));
            full.refused("kind " + k + ", least numbers", NO_ROOM, y -> add(y, k, 123, 1));
            full.refused("kind " + k + ", greatest numbers", NO_ROOM, y -> add(y, k, 10000, 1000));
        }
        full.allowed("act 23 is there", 1, x -> x.closed(23, true));
        full.beyond("closed", 0, 23, NO_SUCH, (x, n) -> x.closed(n, true));
        full.beyond("often", 0, 23, NO_SUCH, (x, n) -> x.often(n));
        full.beyond("back", 0, 23, NO_SUCH, (x, n) -> x.back(n));
        full.beyond("told", 0, 23, NO_SUCH, (x, n) -> x.told(n, 0));
        omittedActsMakeNoRoom();
    }

    private static void omittedActsMakeNoRoom() {
        ExplainDifference x = Made.full();
        x.counted(0, 0, 0);
        due.is("omitted", 1, () -> x.search(1, 20000));
        due.is("accepted", 0, () -> x.accept());
        due.refuses("no room by that", NO_ROOM, () -> x.put(0, 0, 1, 123));
        due.is("acts", 24, () -> x.count(0));
    }

    private static int add(ExplainDifference x, int kind, int time, int n) {
        if (kind == 0) {
            return x.put(0, 0, n, time);
        }
        return kind == 1 ? x.take(0, 0, n, time) : x.move(0, 1, 0, n, time);
    }

    private static void pieces() {
        due.by("put pieces (1 .. 1000) of a good at a place");
        fresh.range("put", 1, 1000, 0, (x, n) -> x.put(0, 0, n, 0));
        fresh.range("take", 1, 1000, 0, (x, n) -> x.take(0, 0, n, 0));
        fresh.range("move", 1, 1000, 0, (x, n) -> x.move(0, 1, 0, n, 0));
        mixed.range("put", 1, 1000, 4, (x, n) -> x.put(0, 0, n, 5));
        mixed.range("take", 1, 1000, 4, (x, n) -> x.take(0, 0, n, 5));
        mixed.range("move", 1, 1000, 4, (x, n) -> x.move(0, 1, 0, n, 5));
        fresh.refused("put -1", ARGUMENT, x -> x.put(0, 0, -1, 0));
        fresh.refused("take -1", ARGUMENT, x -> x.take(0, 0, -1, 0));
        fresh.refused("move -1", ARGUMENT, x -> x.move(0, 1, 0, -1, 0));
        fresh.refused("put -1000", ARGUMENT, x -> x.put(0, 0, -1000, 0));
    }

    private static void toAnotherOne() {
        due.by("move them from a place to another one");
        for (int place = 0; place <= 9; place++) {
            int p = place;
            fresh.refused("move " + p + " to itself", ARGUMENT, x -> x.move(p, p, 0, 1, 0));
            fresh.allowed("move " + p + " to the next", 0, x -> x.move(p, (p + 1) % 10, 0, 1, 0));
            fresh.allowed("move " + p + " from the next", 0, x -> x.move((p + 1) % 10, p, 0, 1, 0));
        }
        mixed.refused("move 0 to itself", ARGUMENT, x -> x.move(0, 0, 0, 1, 5));
        mixed.refused("move 10 to itself", ARGUMENT, x -> x.move(10, 10, 0, 1, 5));
    }

    private static void notBeforeTheActBefore() {
        due.by("at a time (not before that of the act before)");
        for (int before = 0; before < 3; before++) {
            int b = before;
            Edges behind = fresh.after(x -> add(x, b, 500, 1));
            for (int kind = 0; kind < 3; kind++) {
                int k = kind;
                behind.range("kind " + k + " behind kind " + b, 500, 10000, 1,
                        (x, n) -> add(x, k, n, 1));
                behind.refused("kind " + k + " at time 0", ARGUMENT, x -> add(x, k, 0, 1));
            }
        }
        ExplainDifference x = new ExplainDifference();
        due.is("the last time", 0, () -> x.put(0, 0, 1, 10000));
        due.is("the last time again", 1, () -> x.take(0, 0, 1, 10000));
        due.refuses("a time less", ARGUMENT, () -> x.put(0, 0, 1, 9999));
        due.is("the last time, a third", 2, () -> x.move(0, 1, 0, 1, 10000));
    }

    private static void notBeforeAnOmittedAct() {
        due.by("at a time (not before that of the act before)");
        mixed.range("behind an omitted act", 5, 10000, 4, (x, n) -> x.put(0, 0, 1, n));
        ExplainDifference x = Made.puts(1, 2);
        x.closed(1, true);
        due.refuses("before a closed act", ARGUMENT, () -> x.put(0, 0, 1, 0));
        x.window(0, 0);
        due.refuses("before an act outside the window", ARGUMENT, () -> x.put(0, 0, 1, 0));
        due.is("at the time of it", 2, () -> x.put(0, 0, 1, 1));
    }

    private static void plainOmittedDoubled() {
        due.by("An act is PLAIN; or, once an explanation with it was accepted, OMITTED or DOUBLED");
        ExplainDifference x = Made.puts(4, 9, 100);
        x.counted(0, 0, 118);
        due.is("found", 2, () -> x.search(2, 100));
        for (int act = 0; act < 3; act++) {
            int a = act;
            due.is("found, not accepted: plain " + a, 0, () -> x.told(a, 6));
        }
        due.is("found, not accepted", 113, () -> x.expected(0, 0));
        due.is("accepted", 0, () -> x.accept());
        due.is("not done: omitted", 1, () -> x.told(0, 6));
        due.is("twice: doubled", 2, () -> x.told(1, 6));
        due.is("not in it: plain", 0, () -> x.told(2, 6));
        due.is("as often as the acts count", 118, () -> x.expected(0, 0));
    }

    private static void expectedMayBeBelow0() {
        due.by("EXPECTED .. (it may be below 0)");
        ExplainDifference x = new ExplainDifference();
        due.is("no act", 0, () -> x.expected(0, 0));
        x.take(0, 0, 1, 0);
        due.is("taken from nothing", -1, () -> x.expected(0, 0));
        x.put(0, 0, 1, 0);
        due.is("just 0", 0, () -> x.expected(0, 0));
        x.move(0, 1, 0, 1000, 0);
        due.is("went from nothing", -1000, () -> x.expected(0, 0));
        due.is("came", 1000, () -> x.expected(1, 0));
        due.is("nothing there, as counted, is a difference", 1, () -> x.counted(0, 0, 0));
        due.is("counted less expected", 1000, () -> x.differ(0, 2));
    }

    // All 24 acts are doubled, four by four, as a search finds four changes at most.
    private static void expectedAtItsFarthest() {
        due.by("EXPECTED .. each as often as its act counts (it may be below 0)");
        ExplainDifference puts = Made.equalPuts(24, 1000);
        ExplainDifference takes = new ExplainDifference();
        for (int act = 0; act < 24; act++) {
            takes.move(1, 0, 0, 1000, act);
        }
        due.is("24 puts", 24000, () -> puts.expected(0, 0));
        due.is("24 moves from", -24000, () -> takes.expected(1, 0));
        for (int four = 0; four < 6; four++) {
            int due4 = 28000 + 4000 * four;
            doubleFour(puts, four, due4);
            doubleFour(takes, four, due4);
        }
        due.is("24 doubled puts", 48000, () -> puts.expected(0, 0));
        due.is("doubled", 24, () -> puts.count(5));
        due.is("24 doubled moves from", -48000, () -> takes.expected(1, 0));
        due.is("24 doubled moves to", 48000, () -> takes.expected(0, 0));
        due.is("none there", 1, () -> puts.counted(0, 0, 0));
        due.is("the least difference", -48000, () -> puts.differ(0, 2));
        due.is("pieces", 48000, () -> puts.count(2));
        due.is("most there", 1, () -> takes.counted(1, 0, 100000));
        due.is("the greatest difference", 148000, () -> takes.differ(0, 2));
        due.is("pieces", 148000, () -> takes.count(2));
        due.is("a doubled act is no candidate", 0, () -> takes.count(3));
    }

    private static void doubleFour(ExplainDifference x, int four, int counted) {
        due.is("four candidates", four == 0 ? 0 : 4, () -> x.window(four * 4, four * 4 + 3));
        due.is("a difference", 1, () -> x.counted(0, 0, counted));
        due.is("four changes", 4, () -> x.search(4, 20000));
        due.is("accepted", 0, () -> x.accept());
    }

    private static void countedPieces() {
        due.by("COUNTED are 0 .. 100000 pieces of a place and good");
        mixed.allowed("0, as many as are expected", 1, x -> x.counted(9, 5, 0));
        mixed.allowed("1", 2, x -> x.counted(9, 5, 1));
        mixed.allowed("100000", 2, x -> x.counted(9, 5, 100000));
        mixed.beyond("counted", -1, 100000, ARGUMENT, (x, n) -> x.counted(9, 5, n));
        mixed.beyond("counted before", -1, 100000, ARGUMENT, (x, n) -> x.counted(0, 0, n));
        fresh.beyond("nothing yet", -1, 100000, ARGUMENT, (x, n) -> x.counted(0, 0, n));
    }

    private static void ifTheyAreTold() {
        due.by("COUNTED are .. pieces of a place and good, if they are told");
        ExplainDifference x = Made.puts(5);
        due.is("not told: no difference", 0, () -> x.count(1));
        due.is("not told: no candidate", 0, () -> x.count(3));
        due.is("not told: nothing to look for", 0, () -> x.search(4, 20000));
        due.is("told: 0 pieces are counted too", 1, () -> x.counted(0, 0, 0));
        due.is("told: a candidate", 1, () -> x.count(3));
        due.is("told no more", 0, () -> x.counted(0, 0, -1));
        due.is("told no more: no candidate", 0, () -> x.count(3));
    }

    private static void notTheExpectedOnes() {
        due.by("A DIFFERENCE is a place and good whose counted pieces are not the expected ones");
        ExplainDifference x = Made.puts(5);
        due.is("a piece less", 1, () -> x.counted(0, 0, 4));
        due.is("counted less expected", -1, () -> x.differ(0, 2));
        due.is("just as many", 0, () -> x.counted(0, 0, 5));
        due.refuses("no difference", NO_SUCH, () -> x.differ(0, 2));
        due.is("a piece more", 1, () -> x.counted(0, 0, 6));
        due.is("counted less expected", 1, () -> x.differ(0, 2));
        x.put(0, 0, 1, 0);
        due.is("an act makes them agree", 0, () -> x.count(1));
        x.take(0, 0, 1, 0);
        due.is("an act makes them differ", 1, () -> x.differ(0, 2));
    }

    private static void inTheOrderOfPlaces() {
        due.by("they are in the order of places, of goods at one place");
        ExplainDifference x = new ExplainDifference();
        due.is("the last", 1, () -> x.counted(9, 5, 4));
        due.is("the first of the last place", 2, () -> x.counted(9, 0, 3));
        due.is("the last of the first place", 3, () -> x.counted(0, 5, 2));
        due.is("the first", 4, () -> x.counted(0, 0, 1));
        int[][] want = {{0, 0, 1}, {0, 5, 2}, {9, 0, 3}, {9, 5, 4}};
        for (int i = 0; i < 4; i++) {
            for (int what = 0; what <= 2; what++) {
                int n = i;
                int w = what;
                due.is("differ(" + n + ", " + w + ")", want[n][w], () -> x.differ(n, w));
            }
        }
        due.is("the first is none any more", 3, () -> x.counted(0, 0, 0));
        due.is("the next is the first", 5, () -> x.differ(0, 1));
    }

    private static void theFirstThatHolds() {
        due.by("REFUSALS, the first that holds");
        numbersBeforeRoom();
        thereBeforeNumbers(fresh, 0, 0, 0);
        thereBeforeNumbers(mixed, 4, 1, 1);
        mixed.refused("back: no act, before its being plain", NO_SUCH, x -> x.back(4));
        mixed.refused("share: numbers before all 0", ARGUMENT, x -> x.share(-1, 0));
        mixed.refused("share: numbers before all 0", ARGUMENT, x -> x.share(1000001, 0));
    }

    private static void numbersBeforeRoom() {
        full.beyond("put place", 0, 9, ARGUMENT, (x, n) -> x.put(n, 0, 1, 123));
        full.beyond("put good", 0, 5, ARGUMENT, (x, n) -> x.put(0, n, 1, 123));
        full.beyond("put pieces", 1, 1000, ARGUMENT, (x, n) -> x.put(0, 0, n, 123));
        full.beyond("put time", 123, 10000, ARGUMENT, (x, n) -> x.put(0, 0, 1, n));
        full.beyond("take place", 0, 9, ARGUMENT, (x, n) -> x.take(n, 0, 1, 123));
        full.beyond("take good", 0, 5, ARGUMENT, (x, n) -> x.take(0, n, 1, 123));
        full.beyond("take pieces", 1, 1000, ARGUMENT, (x, n) -> x.take(0, 0, n, 123));
        full.beyond("take time", 123, 10000, ARGUMENT, (x, n) -> x.take(0, 0, 1, n));
        full.beyond("move place", 0, 9, ARGUMENT, (x, n) -> x.move(n, 1, 0, 1, 123));
        full.beyond("move to", 0, 9, ARGUMENT, (x, n) -> x.move(1, n, 0, 1, 123));
        full.beyond("move good", 0, 5, ARGUMENT, (x, n) -> x.move(0, 1, n, 1, 123));
        full.beyond("move pieces", 1, 1000, ARGUMENT, (x, n) -> x.move(0, 1, 0, n, 123));
        full.beyond("move time", 123, 10000, ARGUMENT, (x, n) -> x.move(0, 1, 0, 1, n));
        full.refused("move: the same place", ARGUMENT, x -> x.move(7, 7, 0, 1, 123));
    }

    private static void thereBeforeNumbers(Edges at, int acts, int differences, int changes) {
        for (int what : new int[] {-1, 9, Integer.MIN_VALUE, Integer.MAX_VALUE}) {
            at.beyond("told(.., " + what + ")", 0, acts - 1, NO_SUCH, (x, n) -> x.told(n, what));
            at.beyond("differ(.., " + what + ")", 0, differences - 1, NO_SUCH,
                    (x, n) -> x.differ(n, what));
            at.beyond("found(.., " + what + ")", 0, changes - 1, NO_SUCH,
                    (x, n) -> x.found(n, what));
        }
    }
}
