import java.util.Random;

/** Long runs of calls, each answer compared with the model's; the seeds are fixed. */
public final class ModelTest {
    private static final int RUNS = 800;
    private static final int CALLS = 512;
    private static final Due due = new Due("ModelTest");

    private final Random random;
    private final int places;
    private final int goods;
    private final int pieces;
    private final int mostActs;
    private final ExplainDifference x = new ExplainDifference();
    private final Model m = new Model();
    private int calls = 0;

    private ModelTest(long seed) {
        random = new Random(seed);
        places = 1 + random.nextInt(10);
        goods = 1 + random.nextInt(random.nextBoolean() ? 2 : 6);
        pieces = random.nextInt(5) == 0 ? 1000 : 1 + random.nextInt(6);
        mostActs = random.nextInt(10) == 0 ? 24 : 2 + random.nextInt(7);
    }

    public static void main(String[] args) {
        for (int run = 0; run < RUNS; run++) {
            ModelTest t = new ModelTest(run);
            while (t.calls < CALLS) {
                t.step("run " + run);
            }
        }
        due.end();
    }

    // What an object answers behind its last call is free, so it is not asked any more then.
    private void both(String what, Due.Call model, Due.Call real) {
        if (calls < CALLS) {
            calls++;
            due.same(what + ", call " + calls, Due.outcome(model), Due.outcome(real));
        }
    }

    // Mostly from the range, at times just outside it.
    private int near(int least, int most) {
        int roll = random.nextInt(60);
        if (roll == 0) {
            return least - 1;
        }
        return roll == 1 ? most + 1 : least + random.nextInt(most - least + 1);
    }

    private int place() {
        return random.nextInt(40) == 0 ? near(0, 9) : random.nextInt(places);
    }

    private int good() {
        return random.nextInt(40) == 0 ? near(0, 5) : random.nextInt(goods);
    }

    private int act() {
        return near(0, Math.max(0, m.acts.size() - 1));
    }

    private int time() {
        int last = m.acts.isEmpty() ? 0 : m.acts.get(m.acts.size() - 1).time;
        int roll = random.nextInt(30);
        if (roll == 0) {
            return last - 1;
        }
        return roll == 1 ? 10001 : Math.min(10000, last + random.nextInt(4));
    }

    // Mostly what some changes away from the expected pieces would be.
    private int tally(int place, int good) {
        if (random.nextInt(8) == 0 || place < 0 || place > 9 || good < 0 || good > 5) {
            return random.nextInt(4) == 0 ? near(-1, 100000) : -1;
        }
        int n = m.expected(place, good);
        for (Model.Act a : m.acts) {
            if (random.nextInt(3) == 0) {
                n += a.effectAt(place, good) * (random.nextBoolean() ? 1 : -1);
            }
        }
        return Math.max(0, n);
    }

    private void step(String at) {
        int kind = random.nextInt(20);
        if (kind < 4) {
            addAct(at);
        } else if (kind < 8) {
            tellCount(at);
        } else if (kind < 12) {
            search(at);
        } else if (kind < 14) {
            both(at + " accept", () -> m.accept(), () -> x.accept());
        } else if (kind < 15) {
            int act = act();
            both(at + " back", () -> m.back(act), () -> x.back(act));
        } else if (kind < 16) {
            int act = act();
            boolean on = random.nextInt(3) == 0;
            both(at + " closed", () -> m.closed(act, on), () -> x.closed(act, on));
        } else if (kind < 17) {
            window(at);
        } else {
            look(at);
        }
        both(at + " differences", () -> m.count(1), () -> x.count(1));
    }

    private void addAct(String at) {
        int kind = random.nextInt(3);
        int place = place();
        int to = place();
        int good = good();
        int n = random.nextInt(20) == 0 ? near(1, 1000) : 1 + random.nextInt(pieces);
        int time = time();
        if (m.acts.size() >= mostActs && mostActs < 24) {
            return;
        }
        Due.Call model = () -> m.act(kind, place, to, good, n, time);
        if (kind == 0) {
            both(at + " put", model, () -> x.put(place, good, n, time));
        } else if (kind == 1) {
            both(at + " take", model, () -> x.take(place, good, n, time));
        } else {
            both(at + " move", model, () -> x.move(place, to, good, n, time));
        }
    }

    private void tellCount(String at) {
        int place = place();
        int good = good();
        int n = tally(place, good);
        both(at + " counted", () -> m.counted(place, good, n), () -> x.counted(place, good, n));
    }

    private void window(String at) {
        int last = m.acts.isEmpty() ? 0 : m.acts.get(m.acts.size() - 1).time;
        boolean whole = random.nextInt(2) == 0;
        int from = whole ? 0 : near(0, last);
        int to = whole ? 10000 : near(Math.max(0, from - 1), Math.max(0, from - 1) + last);
        both(at + " window", () -> m.window(from, to), () -> x.window(from, to));
    }

    private void search(String at) {
        // The model lists all sets: with many candidates it is kept to those of two changes.
        int most = m.count(3) > 8 ? near(1, 2) : near(1, 4);
        int steps = random.nextInt(3) == 0 ? near(0, 200) : near(0, 20000);
        both(at + " search(" + most + ", " + steps + ")",
                () -> m.search(most, steps), () -> x.search(most, steps));
        both(at + " exact", () -> m.exact ? 1 : 0, () -> x.exact() ? 1 : 0);
        both(at + " steps", () -> m.steps, () -> x.steps());
        both(at + " ties", () -> m.all.size(), () -> x.ties());
        for (int i = 0; i <= m.explanation.size(); i++) {
            int n = i;
            both(at + " found act", () -> m.found(n, 0), () -> x.found(n, 0));
            both(at + " found change", () -> m.found(n, 1), () -> x.found(n, 1));
        }
        for (int i = 0; i <= m.acts.size(); i++) {
            int act = i;
            both(at + " often", () -> m.often(act), () -> x.often(act));
        }
    }

    private void look(String at) {
        int place = place();
        int good = good();
        int i = near(0, 5);
        int act = act();
        int what = near(0, 8);
        both(at + " expected", () -> m.expected(place, good), () -> x.expected(place, good));
        both(at + " of", () -> m.of(place, good, i), () -> x.of(place, good, i));
        both(at + " differ", () -> m.differ(i, what / 3), () -> x.differ(i, what / 3));
        both(at + " told", () -> m.told(act, what), () -> x.told(act, what));
        both(at + " count", () -> m.count(what), () -> x.count(what));
        both(at + " found", () -> m.found(i, what), () -> x.found(i, what));
        both(at + " often", () -> m.often(act), () -> x.often(act));
        both(at + " ties", () -> m.all.size(), () -> x.ties());
    }
}
