/** All that can be asked of an object without changing it, as one text. */
final class Look {
    private final StringBuilder seen = new StringBuilder();
    private final ExplainDifference x;

    private Look(ExplainDifference x) {
        this.x = x;
    }

    static String at(ExplainDifference x) {
        Look look = new Look(x);
        look.counts();
        look.acts();
        look.differences();
        look.lastSearch();
        return look.seen.toString();
    }

    private void add(String what, Due.Call call) {
        seen.append(what).append('=').append(Due.outcome(call)).append(' ');
    }

    private void counts() {
        for (int what = 0; what <= 7; what++) {
            int w = what;
            add("count" + w, () -> x.count(w));
        }
        for (int cell = 0; cell < 60; cell++) {
            int c = cell;
            add("expected" + c, () -> x.expected(c / 6, c % 6));
        }
    }

    private void acts() {
        for (int act = 0; act < x.count(0); act++) {
            int a = act;
            for (int what = 0; what <= 8; what++) {
                int w = what;
                add("told" + a + "." + w, () -> x.told(a, w));
            }
            add("often" + a, () -> x.often(a));
        }
    }

    private void differences() {
        for (int i = 0; i < x.count(1); i++) {
            int n = i;
            for (int what = 0; what <= 2; what++) {
                int w = what;
                add("differ" + n + "." + w, () -> x.differ(n, w));
            }
        }
    }

    private void lastSearch() {
        add("exact", () -> x.exact() ? 1 : 0);
        add("steps", () -> x.steps());
        add("ties", () -> x.ties());
        for (int i = 0; i < x.count(7); i++) {
            int n = i;
            add("found" + n + ".0", () -> x.found(n, 0));
            add("found" + n + ".1", () -> x.found(n, 1));
        }
    }
}
