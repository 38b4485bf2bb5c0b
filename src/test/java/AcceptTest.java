import java.util.NoSuchElementException;

/** Promises 16 accept and 17 back. */
public final class AcceptTest {
    private static final Class<IllegalStateException> STATE = IllegalStateException.class;
    private static final Class<NoSuchElementException> NO_SUCH = NoSuchElementException.class;
    private static final Due due = new Due("AcceptTest");

    public static void main(String[] args) {
        acceptAndBack();
        theSearchIsStillTold();
        anOlderExplanation();
        explanationsOfPartOfASearch();
        backRefuses();
        backOfDoubled();
        due.end();
    }

    private static ExplainDifference omittedAndDoubled() {
        ExplainDifference x = new ExplainDifference();
        x.put(0, 0, 5, 0);
        x.move(0, 1, 1, 3, 0);
        x.take(0, 2, 7, 0);
        x.counted(0, 0, 0);
        x.counted(1, 1, 6);
        due.is("two", 2, () -> x.search(4, 20000));
        return x;
    }

    private static void acceptAndBack() {
        ExplainDifference x = omittedAndDoubled();
        due.is("accept", 0, () -> x.accept());
        due.is("omitted", 1, () -> x.told(0, 6));
        due.is("doubled", 2, () -> x.told(1, 6));
        due.is("plain", 0, () -> x.told(2, 6));
        due.is("expected", 0, () -> x.expected(0, 0));
        due.is("expected", -6, () -> x.expected(0, 1));
        due.is("expected", 6, () -> x.expected(1, 1));
        due.is("candidates", 0, () -> x.count(3));
        due.is("no explanation", 0, () -> x.count(7));
        due.refuses("found", NO_SUCH, () -> x.found(0, 0));
        due.refuses("accept again", STATE, () -> x.accept());
        due.is("back", 1, () -> x.back(0));
        due.is("plain again", 0, () -> x.told(0, 6));
        due.is("a candidate again", 1, () -> x.told(0, 8));
        due.is("expected", 5, () -> x.expected(0, 0));
        due.is("back", 2, () -> x.back(1));
        due.is("expected", -3, () -> x.expected(0, 1));
        due.is("expected", 3, () -> x.expected(1, 1));
        due.refuses("no explanation by that", STATE, () -> x.accept());
        due.is("searched anew", 2, () -> x.search(4, 20000));
        due.is("accepted anew", 0, () -> x.accept());
    }

    private static void theSearchIsStillTold() {
        ExplainDifference x = omittedAndDoubled();
        int steps = x.steps();
        x.accept();
        due.is("exact", 1, () -> x.exact() ? 1 : 0);
        due.is("steps", steps, () -> x.steps());
        due.is("ties", 1, () -> x.ties());
        due.is("often", 1, () -> x.often(0));
        due.is("often", 0, () -> x.often(2));
    }

    private static void anOlderExplanation() {
        ExplainDifference x = omittedAndDoubled();
        x.counted(0, 0, -1);
        x.counted(9, 5, 4);
        x.put(1, 1, 1, 0);
        x.closed(0, true);
        x.window(5, 5);
        due.is("still there", 2, () -> x.count(7));
        due.is("differences then", 2, () -> x.accept());
        due.is("omitted", 1, () -> x.told(0, 6));
        due.is("doubled", 2, () -> x.told(1, 6));
        due.is("expected", 7, () -> x.expected(1, 1));
    }

    private static void explanationsOfPartOfASearch() {
        ExplainDifference x = new ExplainDifference();
        x.put(0, 0, 5, 0);
        x.put(0, 0, 5, 0);
        x.counted(0, 0, 5);
        due.is("first", 1, () -> x.search(1, 1));
        due.is("not exact", 0, () -> x.exact() ? 1 : 0);
        due.is("accept", 0, () -> x.accept());
        due.is("omitted", 1, () -> x.told(0, 6));
    }

    private static void backRefuses() {
        ExplainDifference x = omittedAndDoubled();
        due.refuses("act -1", NO_SUCH, () -> x.back(-1));
        due.refuses("act 3", NO_SUCH, () -> x.back(3));
        due.refuses("plain", STATE, () -> x.back(0));
        x.accept();
        due.refuses("plain", STATE, () -> x.back(2));
        due.is("back", 1, () -> x.back(1));
        due.refuses("back twice", STATE, () -> x.back(1));
    }

    private static void backOfDoubled() {
        ExplainDifference x = new ExplainDifference();
        x.take(0, 0, 5, 0);
        x.put(0, 0, 20, 0);
        x.counted(0, 0, 10);
        due.is("doubled", 1, () -> x.search(1, 100));
        due.is("accept", 0, () -> x.accept());
        due.is("told", 2, () -> x.told(0, 6));
        x.counted(0, 0, 15);
        due.is("back", 0, () -> x.back(0));
        due.is("expected", 15, () -> x.expected(0, 0));
    }
}
