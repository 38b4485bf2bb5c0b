import java.util.NoSuchElementException;

/** The bounds of promises 16 accept and 17 back. */
public final class AcceptBoundsTest {
    private static final Class<IllegalStateException> STATE = IllegalStateException.class;
    private static final Class<NoSuchElementException> NO_SUCH = NoSuchElementException.class;
    private static final Due due = new Due("AcceptBoundsTest");
    private static final Edges fresh = new Edges(due, Made::fresh);
    private static final Edges mixed = new Edges(due, Made::mixed);
    private static final Edges full = new Edges(due, Made::full);
    private static final Edges one = new Edges(due, () -> Made.puts(5));

    public static void main(String[] args) {
        thereIsNone();
        noneAnyMoreThen();
        noneByBack();
        itsActsAreWhatItSays();
        howManyDifferencesThen();
        notExactButAccepted();
        aRefusedSearchKeepsIt();
        backIsPlainAgain();
        backHowManyDifferences();
        backOfAPlainAct();
        backWithoutSuchAnAct();
        backKeepsTheExplanation();
        acceptedAgainAndAgain();
        due.end();
    }

    private static void thereIsNone() {
        due.by("IllegalStateException: there is none");
        Edges differing = one.after(x -> x.counted(0, 0, 0));
        noneIn("nothing yet", fresh);
        noneIn("24 acts, nothing counted", full);
        noneIn("no search yet", differing);
        noneIn("no differences", one.after(x -> x.search(4, 20000)));
        noneIn("no steps", differing.after(x -> x.search(4, 0)));
        noneIn("no candidate", differing.after(x -> x.closed(0, true), x -> x.search(4, 20000)));
        noneIn("none found", one.after(x -> x.counted(0, 0, 1), x -> x.search(4, 20000)));
        Edges found = differing.after(x -> x.search(1, 9));
        noneIn("found, then no differences",
                found.after(x -> x.counted(0, 0, 5), x -> x.search(1, 9)));
        noneIn("found, then none found",
                found.after(x -> x.counted(0, 0, 1), x -> x.search(1, 9)));
        noneIn("found and accepted", found.after(x -> x.accept()));
    }

    private static void noneIn(String what, Edges state) {
        state.refused(what, STATE, x -> x.accept());
        state.allowed(what + ", changes", 0, x -> x.count(7));
    }

    private static void noneAnyMoreThen() {
        due.by("There is no explanation any more then");
        Edges accepted = mixed.after(x -> x.accept());
        accepted.allowed("changes", 0, x -> x.count(7));
        accepted.refused("found", NO_SUCH, x -> x.found(0, 0));
        accepted.refused("accepted twice", STATE, x -> x.accept());
        accepted.allowed("omitted once", 2, x -> x.count(4));
        accepted.allowed("expected", 5, x -> x.expected(0, 0));
    }

    private static void noneByBack() {
        due.by("There is no explanation any more then");
        ExplainDifference x = Made.mixed();
        due.is("accepted", 0, () -> x.accept());
        due.is("back", 1, () -> x.back(0));
        due.refuses("no explanation by that", STATE, () -> x.accept());
        due.is("plain", 0, () -> x.told(0, 6));
    }

    private static void itsActsAreWhatItSays() {
        due.by("The explanation is accepted: its acts are what it says");
        ExplainDifference x = Made.puts(1, 3, 9, 27, 81);
        x.counted(0, 0, 121 - 1 + 3 - 9 + 81);
        due.is("four changes", 4, () -> x.search(4, 20000));
        due.is("accepted", 0, () -> x.accept());
        int[] states = {1, 2, 1, 0, 2};
        for (int act = 0; act < 5; act++) {
            int a = act;
            due.is("act " + a, states[a], () -> x.told(a, 6));
            due.is("candidate " + a, states[a] == 0 ? 1 : 0, () -> x.told(a, 8));
        }
        due.is("expected", 195, () -> x.expected(0, 0));
        due.is("omitted", 2, () -> x.count(4));
        due.is("doubled", 2, () -> x.count(5));
    }

    private static void howManyDifferencesThen() {
        due.by("how many differences there are then (accept)");
        then(0, "as it was found", x -> 0);
        then(1, "another difference since", x -> x.counted(9, 5, 1));
        then(1, "counted otherwise since", x -> x.counted(0, 0, 6));
        then(1, "no difference since", x -> x.counted(0, 0, 10));
        then(0, "not counted since", x -> x.counted(0, 0, -1));
        then(1, "another act since", x -> x.put(0, 0, 1, 5));
        then(0, "closed since", x -> x.closed(0, true));
        then(0, "outside the window since", x -> x.window(0, 0));
        ExplainDifference x = Made.mixed();
        for (int cell = 0; cell < 60; cell++) {
            x.counted(cell / 6, cell % 6, 7);
        }
        due.is("all differ then", 60, () -> x.accept());
    }

    private static void then(int differences, String what, Edges.Call since) {
        Edges state = mixed.after(since);
        state.allowed(what, differences, x -> x.accept());
        state.after(x -> x.accept()).allowed(what + ": omitted", 1, x -> x.told(0, 6));
    }

    private static void notExactButAccepted() {
        due.by("the explanation is the first one found so far");
        ExplainDifference x = Made.puts(5, 5);
        x.counted(0, 0, 5);
        due.is("the first", 1, () -> x.search(4, 1));
        due.is("not exact", 0, () -> x.exact() ? 1 : 0);
        due.is("accepted", 0, () -> x.accept());
        due.is("omitted", 1, () -> x.told(0, 6));
        due.is("not exact still", 0, () -> x.exact() ? 1 : 0);
    }

    private static void aRefusedSearchKeepsIt() {
        due.by("IllegalArgumentException (search)");
        ExplainDifference x = Made.mixed();
        due.refuses("most 0", IllegalArgumentException.class, () -> x.search(0, 1));
        due.refuses("most 5", IllegalArgumentException.class, () -> x.search(5, 1));
        due.refuses("steps -1", IllegalArgumentException.class, () -> x.search(1, -1));
        due.refuses("steps 20001", IllegalArgumentException.class, () -> x.search(1, 20001));
        due.is("the explanation is there still", 0, () -> x.accept());
        due.is("omitted", 1, () -> x.told(0, 6));
    }

    private static void backIsPlainAgain() {
        due.by("An act that is omitted or doubled is plain again");
        mixed.allowed("doubled", 2, x -> x.back(2));
        mixed.allowed("omitted", 2, x -> x.back(3));
        ExplainDifference x = Made.mixed();
        x.back(2);
        x.back(3);
        for (int act = 0; act < 4; act++) {
            int a = act;
            due.is("plain", 0, () -> x.told(a, 6));
        }
        due.is("a candidate again", 1, () -> x.told(2, 8));
        due.is("a candidate again", 1, () -> x.told(3, 8));
        due.is("went once", -3, () -> x.expected(0, 1));
        due.is("came once", 3, () -> x.expected(1, 1));
        due.is("taken", -4, () -> x.expected(2, 2));
    }

    private static void backHowManyDifferences() {
        due.by("how many differences there are then (back)");
        mixed.allowed("one more", 2, x -> x.back(3));
        mixed.after(x -> x.counted(2, 2, -1)).allowed("not counted", 1, x -> x.back(3));
        mixed.after(x -> x.counted(1, 1, 3)).allowed("counted as it is then", 1, x -> x.back(2));
        mixed.after(x -> x.counted(0, 1, 0), x -> x.counted(1, 1, 7))
                .allowed("both places of a move", 3, x -> x.back(2));
        mixed.after(x -> x.counted(0, 1, 0), x -> x.counted(1, 1, 3))
                .allowed("one of a move's places", 2, x -> x.back(2));
    }

    private static void backOfAPlainAct() {
        due.by("IllegalStateException: it is plain");
        mixed.refused("in the explanation", STATE, x -> x.back(0));
        mixed.refused("closed", STATE, x -> x.back(1));
        for (int act = 0; act < 24; act++) {
            int a = act;
            full.refused("act " + a, STATE, x -> x.back(a));
        }
        Edges wentBack = mixed.after(x -> x.back(2), x -> x.back(3));
        wentBack.refused("back twice, doubled", STATE, x -> x.back(2));
        wentBack.refused("back twice, omitted", STATE, x -> x.back(3));
    }

    private static void backWithoutSuchAnAct() {
        due.by("NoSuchElementException (back)");
        fresh.beyond("no act", 0, -1, NO_SUCH, (x, n) -> x.back(n));
        mixed.beyond("act", 0, 3, NO_SUCH, (x, n) -> x.back(n));
        full.beyond("full", 0, 23, NO_SUCH, (x, n) -> x.back(n));
    }

    private static void backKeepsTheExplanation() {
        due.by("It is the explanation now (search)");
        ExplainDifference x = Made.mixed();
        due.is("back", 2, () -> x.back(3));
        due.is("changes", 1, () -> x.count(7));
        due.is("its act", 0, () -> x.found(0, 0));
        due.is("accepted, one difference is left", 1, () -> x.accept());
        due.is("omitted", 1, () -> x.told(0, 6));
    }

    private static void acceptedAgainAndAgain() {
        due.by("or, once an explanation with it was accepted, OMITTED or DOUBLED");
        ExplainDifference x = Made.puts(5);
        for (int round = 0; round < 40; round++) {
            int omitted = round % 2 == 0 ? 0 : 1;
            x.counted(0, 0, omitted == 0 ? 10 : 0);
            due.is("found", 1, () -> x.search(1, 2));
            due.is("accepted", 0, () -> x.accept());
            due.is("what it is", 2 - omitted, () -> x.told(0, 6));
            due.is("expected", omitted == 0 ? 10 : 0, () -> x.expected(0, 0));
            due.is("back", 1, () -> x.back(0));
            due.is("expected", 5, () -> x.expected(0, 0));
        }
    }
}
