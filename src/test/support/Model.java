import java.util.ArrayList;
import java.util.List;
import java.util.NoSuchElementException;

/**
 * The document's terms written down as plainly as can be: nothing is kept that can be reckoned
 * anew, and all sets of a search are listed before they are looked at.
 */
final class Model {
    static final class Act {
        int kind;
        int place;
        int to = -1;
        int good;
        int pieces;
        int time;
        int state;
        boolean closed;

        int effectAt(int p, int g) {
            if (g != good) {
                return 0;
            }
            if (p == to) {
                return pieces;
            }
            return p != place ? 0 : kind == 0 ? pieces : -pieces;
        }
    }

    final List<Act> acts = new ArrayList<>();
    final Integer[][] counted = new Integer[10][6];
    int from = 0;
    int to = 10000;
    List<int[]> explanation = new ArrayList<>();
    List<List<int[]>> all = new ArrayList<>();
    boolean exact;
    int steps;

    private static void argument(boolean ok) {
        if (!ok) {
            throw new IllegalArgumentException();
        }
    }

    private static void there(boolean ok) {
        if (!ok) {
            throw new NoSuchElementException();
        }
    }

    private static boolean cell(int place, int good) {
        return 0 <= place && place <= 9 && 0 <= good && good <= 5;
    }

    private boolean isAct(int act) {
        return 0 <= act && act < acts.size();
    }

    int act(int kind, int place, int to, int good, int n, int time) {
        int last = acts.isEmpty() ? 0 : acts.get(acts.size() - 1).time;
        argument(cell(place, good) && 1 <= n && n <= 1000 && last <= time && time <= 10000);
        argument(kind != 2 || cell(to, good) && to != place);
        if (acts.size() == 24) {
            throw new UnsupportedOperationException();
        }
        Act a = new Act();
        a.kind = kind;
        a.place = place;
        a.to = kind == 2 ? to : -1;
        a.good = good;
        a.pieces = n;
        a.time = time;
        acts.add(a);
        return acts.size() - 1;
    }

    int closed(int act, boolean on) {
        there(isAct(act));
        acts.get(act).closed = on;
        return (int) acts.stream().filter(a -> a.closed).count();
    }

    int window(int from, int to) {
        argument(0 <= from && from <= 10000 && 0 <= to && to <= 10000 && from <= to);
        this.from = from;
        this.to = to;
        return candidates().size();
    }

    int counted(int place, int good, int n) {
        argument(cell(place, good) && -1 <= n && n <= 100000);
        counted[place][good] = n == -1 ? null : Integer.valueOf(n);
        return differences(List.of()).size();
    }

    int expected(int place, int good) {
        argument(cell(place, good));
        return expected(place, good, List.of());
    }

    private int expected(int place, int good, List<int[]> changes) {
        int sum = 0;
        for (int i = 0; i < acts.size(); i++) {
            int state = acts.get(i).state;
            for (int[] change : changes) {
                if (change[0] == i) {
                    state = change[1] + 1;
                }
            }
            int times = state == 0 ? 1 : state == 1 ? 0 : 2;
            sum += times * acts.get(i).effectAt(place, good);
        }
        return sum;
    }

    private List<int[]> differences(List<int[]> changes) {
        List<int[]> list = new ArrayList<>();
        for (int p = 0; p < 10; p++) {
            for (int g = 0; g < 6; g++) {
                if (counted[p][g] != null && counted[p][g] != expected(p, g, changes)) {
                    list.add(new int[] {p, g, counted[p][g] - expected(p, g, changes)});
                }
            }
        }
        return list;
    }

    private boolean isCandidate(int act) {
        Act a = acts.get(act);
        boolean atCounted = false;
        for (int p = 0; p < 10; p++) {
            for (int g = 0; g < 6; g++) {
                atCounted |= counted[p][g] != null && a.effectAt(p, g) != 0;
            }
        }
        return a.state == 0 && !a.closed && from <= a.time && a.time <= to && atCounted;
    }

    private List<Integer> candidates() {
        List<Integer> list = new ArrayList<>();
        for (int i = 0; i < acts.size(); i++) {
            if (isCandidate(i)) {
                list.add(i);
            }
        }
        return list;
    }

    int differ(int i, int what) {
        List<int[]> list = differences(List.of());
        there(0 <= i && i < list.size());
        argument(0 <= what && what <= 2);
        return list.get(i)[what];
    }

    int search(int most, int limit) {
        argument(1 <= most && most <= 4 && 0 <= limit && limit <= 20000);
        explanation = new ArrayList<>();
        all = new ArrayList<>();
        exact = true;
        steps = 0;
        if (differences(List.of()).isEmpty()) {
            return 0;
        }
        for (int size = 1; size <= most && all.isEmpty() && exact; size++) {
            for (List<int[]> set : setsUpTo(size)) {
                if (steps == limit) {
                    exact = false;
                    break;
                }
                steps++;
                if (set.size() == size && differences(set).isEmpty()) {
                    all.add(set);
                }
            }
        }
        if (all.isEmpty()) {
            return -1;
        }
        explanation = all.get(0);
        return explanation.size();
    }

    /** All sets of 1 .. size changes of different acts, each right before what begins with it. */
    private List<List<int[]>> setsUpTo(int size) {
        List<int[]> changes = new ArrayList<>();
        for (int act : candidates()) {
            changes.add(new int[] {act, 0});
            changes.add(new int[] {act, 1});
        }
        List<List<int[]>> sets = new ArrayList<>();
        List<List<int[]>> longest = new ArrayList<>();
        longest.add(List.of());
        for (int n = 1; n <= size; n++) {
            List<List<int[]>> longer = new ArrayList<>();
            for (List<int[]> set : longest) {
                for (int[] change : changes) {
                    if (set.isEmpty() || set.get(set.size() - 1)[0] < change[0]) {
                        List<int[]> next = new ArrayList<>(set);
                        next.add(change);
                        longer.add(next);
                    }
                }
            }
            sets.addAll(longer);
            longest = longer;
        }
        sets.sort(Model::compareFromTheFirst);
        return sets;
    }

    private static int compareFromTheFirst(List<int[]> a, List<int[]> b) {
        for (int i = 0; i < a.size() && i < b.size(); i++) {
            int order = Integer.compare(a.get(i)[0] * 2 + a.get(i)[1], b.get(i)[0] * 2 + b.get(i)[1]);
            if (order != 0) {
                return order;
            }
        }
        return Integer.compare(a.size(), b.size());
    }

    int often(int act) {
        there(isAct(act));
        int n = 0;
        for (List<int[]> set : all) {
            for (int[] change : set) {
                n += change[0] == act ? 1 : 0;
            }
        }
        return n;
    }

    int found(int i, int what) {
        there(0 <= i && i < explanation.size());
        argument(0 <= what && what <= 1);
        return explanation.get(i)[what];
    }

    int accept() {
        if (explanation.isEmpty()) {
            throw new IllegalStateException();
        }
        for (int[] change : explanation) {
            acts.get(change[0]).state = change[1] + 1;
        }
        explanation = new ArrayList<>();
        return differences(List.of()).size();
    }

    int back(int act) {
        there(isAct(act));
        if (acts.get(act).state == 0) {
            throw new IllegalStateException();
        }
        acts.get(act).state = 0;
        return differences(List.of()).size();
    }

    int told(int act, int what) {
        there(isAct(act));
        argument(0 <= what && what <= 8);
        Act a = acts.get(act);
        return new int[] {a.kind, a.place, a.to, a.good, a.pieces, a.time, a.state,
            a.closed ? 1 : 0, isCandidate(act) ? 1 : 0}[what];
    }

    int of(int place, int good, int i) {
        argument(cell(place, good) && i >= 0);
        List<Integer> list = new ArrayList<>();
        for (int act = 0; act < acts.size(); act++) {
            if (acts.get(act).effectAt(place, good) != 0) {
                list.add(act);
            }
        }
        return i < list.size() ? list.get(i) : -1;
    }

    int count(int what) {
        List<int[]> differences = differences(List.of());
        int told = 0;
        for (Integer[] row : counted) {
            for (Integer n : row) {
                told += n == null ? 0 : 1;
            }
        }
        return switch (what) {
            case 0 -> acts.size();
            case 1 -> differences.size();
            case 2 -> differences.stream().mapToInt(d -> Math.abs(d[2])).sum();
            case 3 -> candidates().size();
            case 4 -> (int) acts.stream().filter(a -> a.state == 1).count();
            case 5 -> (int) acts.stream().filter(a -> a.state == 2).count();
            case 6 -> told;
            case 7 -> explanation.size();
            default -> -1;
        };
    }
}
