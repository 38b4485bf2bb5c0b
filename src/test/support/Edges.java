/** Asks calls at the edges of what they allow, each on an object made anew. */
final class Edges {
    interface Maker {
        ExplainDifference make();
    }

    interface Call {
        long answer(ExplainDifference x);
    }

    interface CallWith {
        long answer(ExplainDifference x, int n);
    }

    private final Due due;
    private final Maker maker;

    Edges(Due due, Maker maker) {
        this.due = due;
        this.maker = maker;
    }

    /** The same on objects that had these calls before. */
    Edges after(Call... calls) {
        return new Edges(due, () -> {
            ExplainDifference x = maker.make();
            for (Call call : calls) {
                call.answer(x);
            }
            return x;
        });
    }

    void allowed(String what, long want, Call call) {
        ExplainDifference x = maker.make();
        due.is(what, want, () -> call.answer(x));
    }

    // Compared with an object that was not asked, as a look at one before and behind would need
    // more calls than an object is made for.
    void refused(String what, Class<? extends RuntimeException> kind, Call call) {
        ExplainDifference x = maker.make();
        due.refuses(what, kind, () -> call.answer(x));
        due.same(what + ", what it left", Look.at(maker.make()), Look.at(x));
    }

    void beyond(String what, int least, int most, Class<? extends RuntimeException> kind,
            CallWith call) {
        int[] numbers = {least - 1, most + 1, Integer.MIN_VALUE, Integer.MAX_VALUE};
        for (int n : numbers) {
            refused(what + " " + n, kind, x -> call.answer(x, n));
        }
    }

    /** The last numbers that are allowed, both with one answer, and the first that are not. */
    void range(String what, int least, int most, long want, CallWith call) {
        allowed(what + " " + least, want, x -> call.answer(x, least));
        allowed(what + " " + most, want, x -> call.answer(x, most));
        beyond(what, least, most, IllegalArgumentException.class, call);
    }
}
