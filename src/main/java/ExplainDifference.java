import java.util.Arrays;
import java.util.NoSuchElementException;

/**
 * Differences between what acts say and what was counted, explained by the fewest acts that were
 * not done or done twice.
 */
public final class ExplainDifference {
    private static final int PLACES = 10;
    private static final int GOODS = 6;
    private static final int CELLS = 60;
    private static final int LAST_TIME = 10000;
    private static final int MOST_ACTS = 24;
    private static final int MOST_PIECES = 1000;
    private static final int MOST_COUNTED = 100000;
    private static final int NOT_COUNTED = -1;
    private static final int MOST_CHANGES = 4;
    private static final int MOST_STEPS = 20000;
    private static final int MOST_PART = 1000000;

    private static final int PUT = 0;
    private static final int TAKE = 1;
    private static final int MOVE = 2;
    private static final int NO_PLACE = -1;

    // The columns of an act's row are numbered as told() asks for them.
    private static final int KIND = 0;
    private static final int PLACE = 1;
    private static final int TO = 2;
    private static final int GOOD = 3;
    private static final int PIECES = 4;
    private static final int TIME = 5;
    private static final int STATE = 6;
    private static final int SHUT = 7;
    private static final int COLUMNS = 8;
    private static final int IS_CANDIDATE = 8;

    private static final int PLAIN = 0;
    private static final int OMITTED = 1;
    private static final int DOUBLED = 2;

    private static final int OMIT = 0;
    private static final int DOUBLE = 1;

    private final Ledger ledger;
    private final Seeker seeker;

    public ExplainDifference() {
        ledger = new Ledger();
        seeker = new Seeker();
    }

    public int put(int place, int good, int n, int time)
            throws IllegalArgumentException, UnsupportedOperationException {
        needAct(place, good, n, time);
        needRoom();
        return ledger.add(PUT, place, NO_PLACE, good, n, time);
    }

    public int take(int place, int good, int n, int time)
            throws IllegalArgumentException, UnsupportedOperationException {
        needAct(place, good, n, time);
        needRoom();
        return ledger.add(TAKE, place, NO_PLACE, good, n, time);
    }

    public int move(int place, int to, int good, int n, int time)
            throws IllegalArgumentException, UnsupportedOperationException {
        needAct(place, good, n, time);
        need(isWithin(to, 0, PLACES - 1) && to != place);
        needRoom();
        return ledger.add(MOVE, place, to, good, n, time);
    }

    public int closed(int act, boolean on) throws NoSuchElementException {
        needThere(act, ledger.acts);
        ledger.rows[act][SHUT] = on ? 1 : 0;
        return ledger.actsWith(SHUT, 1);
    }

    public int window(int from, int to) throws IllegalArgumentException {
        need(isWithin(from, 0, LAST_TIME) && isWithin(to, from, LAST_TIME));
        ledger.windowFrom = from;
        ledger.windowTo = to;
        return ledger.candidates();
    }

    public int counted(int place, int good, int n) throws IllegalArgumentException {
        needCell(place, good);
        need(isWithin(n, NOT_COUNTED, MOST_COUNTED));
        ledger.tell(cellOf(place, good), n);
        return ledger.differences;
    }

    public int expected(int place, int good) throws IllegalArgumentException {
        needCell(place, good);
        return ledger.awaited[cellOf(place, good)];
    }

    public int differ(int i, int what) throws NoSuchElementException, IllegalArgumentException {
        needThere(i, ledger.differences);
        need(isWithin(what, 0, 2));
        int cell = ledger.differingCell(i);
        if (what == 0) {
            return cell / GOODS;
        }
        return what == 1 ? cell % GOODS : ledger.gap(cell);
    }

    public int search(int most, int steps) throws IllegalArgumentException {
        need(isWithin(most, 1, MOST_CHANGES) && isWithin(steps, 0, MOST_STEPS));
        return seeker.seek(ledger, most, steps);
    }

    public boolean exact() {
        return seeker.complete;
    }

    public int steps() {
        return seeker.stepsDone;
    }

    public int ties() {
        return seeker.explanations;
    }

    public int often(int act) throws NoSuchElementException {
        needThere(act, ledger.acts);
        return seeker.uses[act];
    }

    public int found(int i, int what) throws NoSuchElementException, IllegalArgumentException {
        needThere(i, seeker.changes);
        need(isWithin(what, 0, 1));
        return what == 0 ? seeker.firstActs[i] : seeker.firstChanges[i];
    }

    public int accept() throws IllegalStateException {
        if (seeker.changes == 0 || !seeker.isOfPlainActs(ledger)) {
            throw new IllegalStateException("no explanation that can be accepted");
        }
        seeker.settle(ledger);
        return ledger.differences;
    }

    public int back(int act) throws NoSuchElementException, IllegalStateException {
        needThere(act, ledger.acts);
        if (ledger.rows[act][STATE] == PLAIN) {
            throw new IllegalStateException("the act is plain");
        }
        ledger.turn(act, PLAIN);
        return ledger.differences;
    }

    public int share(int part, int all) throws IllegalArgumentException, ArithmeticException {
        need(isWithin(part, 0, MOST_PART) && all >= 0);
        if (all == 0) {
            throw new ArithmeticException("/ by zero");
        }
        return part * 100 / all;
    }

    public int told(int act, int what) throws NoSuchElementException, IllegalArgumentException {
        needThere(act, ledger.acts);
        need(isWithin(what, 0, IS_CANDIDATE));
        if (what == IS_CANDIDATE) {
            return ledger.isCandidate(act) ? 1 : 0;
        }
        return ledger.rows[act][what];
    }

    public int of(int place, int good, int i) throws IllegalArgumentException {
        needCell(place, good);
        need(i >= 0);
        return ledger.actAt(cellOf(place, good), i);
    }

    public int count(int what) {
        switch (what) {
            case 0:
                return ledger.acts;
            case 1:
                return ledger.differences;
            case 2:
                return ledger.piecesOfDifferences();
            case 3:
                return ledger.candidates();
            case 4:
                return ledger.actsWith(STATE, OMITTED);
            case 5:
                return ledger.actsWith(STATE, DOUBLED);
            case 6:
                return ledger.countedCells();
            case 7:
                return seeker.changes;
            default:
                return -1;
        }
    }

    private void needAct(int place, int good, int n, int time) {
        needCell(place, good);
        need(isWithin(n, 1, MOST_PIECES));
        need(isWithin(time, ledger.lastTime(), LAST_TIME));
    }

    private void needRoom() {
        if (ledger.acts >= MOST_ACTS) {
            throw new UnsupportedOperationException("no room for another act");
        }
    }

    private static void needCell(int place, int good) {
        need(isWithin(place, 0, PLACES - 1) && isWithin(good, 0, GOODS - 1));
    }

    private static void needThere(int i, int number) {
        if (!isWithin(i, 0, number - 1)) {
            throw new NoSuchElementException("there is no such act, difference or change");
        }
    }

    private static void need(boolean holds) {
        if (!holds) {
            throw new IllegalArgumentException("a number is outside its range");
        }
    }

    private static boolean isWithin(int n, int least, int most) {
        return n >= least && n <= most;
    }

    private static int cellOf(int place, int good) {
        return place * GOODS + good;
    }

    private static int timesDone(int state) {
        if (state == OMITTED) {
            return 0;
        }
        return state == DOUBLED ? 2 : 1;
    }

    /** The acts, what is expected by them, and what was counted; a cell is a place and good. */
    private static final class Ledger {
        final int[][] rows;
        final int[] awaited;
        final int[] tally;
        int acts;
        int differences;
        int windowFrom;
        int windowTo;

        Ledger() {
            rows = new int[MOST_ACTS][COLUMNS];
            awaited = new int[CELLS];
            tally = new int[CELLS];
            Arrays.fill(tally, NOT_COUNTED);
            windowTo = LAST_TIME;
        }

        int add(int kind, int place, int to, int good, int n, int time) {
            int act = acts;
            int[] row = rows[act];
            row[KIND] = kind;
            row[PLACE] = place;
            row[TO] = to;
            row[GOOD] = good;
            row[PIECES] = n;
            row[TIME] = time;
            acts++;
            carry(act, 1);
            return act;
        }

        int lastTime() {
            return acts == 0 ? 0 : rows[acts - 1][TIME];
        }

        void turn(int act, int state) {
            int times = timesDone(state) - timesDone(rows[act][STATE]);
            rows[act][STATE] = state;
            carry(act, times);
        }

        void carry(int act, int times) {
            int[] row = rows[act];
            int pieces = row[PIECES] * times;
            shift(cellOf(row[PLACE], row[GOOD]), row[KIND] == PUT ? pieces : -pieces);
            if (row[KIND] == MOVE) {
                shift(cellOf(row[TO], row[GOOD]), pieces);
            }
        }

        private void shift(int cell, int pieces) {
            int before = differs(cell);
            awaited[cell] += pieces;
            differences += differs(cell) - before;
        }

        void tell(int cell, int n) {
            int before = differs(cell);
            tally[cell] = n;
            differences += differs(cell) - before;
        }

        private boolean isCounted(int cell) {
            return tally[cell] != NOT_COUNTED;
        }

        private int differs(int cell) {
            return tally[cell] != NOT_COUNTED && tally[cell] != awaited[cell] ? 1 : 0;
        }

        int gap(int cell) {
            return tally[cell] - awaited[cell];
        }

        int differingCell(int i) {
            int cell = 0;
            int before = differs(cell);
            while (before <= i && cell < CELLS - 1) {
                cell++;
                before += differs(cell);
            }
            return cell;
        }

        int piecesOfDifferences() {
            int pieces = 0;
            for (int cell = 0; cell < CELLS; cell++) {
                pieces += differs(cell) * Math.abs(gap(cell));
            }
            return pieces;
        }

        int countedCells() {
            int cells = 0;
            for (int cell = 0; cell < CELLS; cell++) {
                if (isCounted(cell)) {
                    cells++;
                }
            }
            return cells;
        }

        boolean isCandidate(int act) {
            int[] row = rows[act];
            return row[STATE] == PLAIN && row[SHUT] == 0
                    && isWithin(row[TIME], windowFrom, windowTo) && isAtCountedCell(row);
        }

        private boolean isAtCountedCell(int[] row) {
            return isCounted(cellOf(row[PLACE], row[GOOD]))
                    || row[KIND] == MOVE && isCounted(cellOf(row[TO], row[GOOD]));
        }

        int candidates() {
            int number = 0;
            for (int act = 0; act < acts; act++) {
                if (isCandidate(act)) {
                    number++;
                }
            }
            return number;
        }

        int actsWith(int column, int value) {
            int number = 0;
            for (int act = 0; act < acts; act++) {
                if (rows[act][column] == value) {
                    number++;
                }
            }
            return number;
        }

        int actAt(int cell, int i) {
            int before = 0;
            for (int act = 0; act < acts; act++) {
                if (isAt(rows[act], cell)) {
                    if (before == i) {
                        return act;
                    }
                    before++;
                }
            }
            return -1;
        }

        private static boolean isAt(int[] row, int cell) {
            return cellOf(row[PLACE], row[GOOD]) == cell
                    || row[KIND] == MOVE && cellOf(row[TO], row[GOOD]) == cell;
        }
    }

    /** The last search and the explanation that it left. */
    private static final class Seeker {
        final int[] choices;
        final int[] workActs;
        final int[] workChanges;
        final int[] firstActs;
        final int[] firstChanges;
        final int[] uses;
        int choiceNumber;
        int size;
        int stepLimit;
        int stepsDone;
        int explanations;
        int changes;
        boolean complete;

        Seeker() {
            choices = new int[MOST_ACTS];
            workActs = new int[MOST_CHANGES];
            workChanges = new int[MOST_CHANGES];
            firstActs = new int[MOST_CHANGES];
            firstChanges = new int[MOST_CHANGES];
            uses = new int[MOST_ACTS];
        }

        int seek(Ledger ledger, int most, int steps) {
            begin(steps);
            if (ledger.differences == 0) {
                return 0;
            }
            gatherChoices(ledger);
            for (int n = 1; n <= most && complete && explanations == 0; n++) {
                size = n;
                complete = extend(ledger, 0, 0);
            }
            return explanations == 0 ? -1 : changes;
        }

        private void begin(int steps) {
            stepLimit = steps;
            stepsDone = 0;
            explanations = 0;
            changes = 0;
            complete = true;
            Arrays.fill(uses, 0);
        }

        private void gatherChoices(Ledger ledger) {
            choiceNumber = 0;
            for (int act = 0; act < ledger.acts; act++) {
                if (ledger.isCandidate(act)) {
                    choices[choiceNumber] = act;
                    choiceNumber++;
                }
            }
        }

        // False: the steps have run out.
        private boolean extend(Ledger ledger, int depth, int firstChoice) {
            if (depth >= size) {
                if (ledger.differences == 0) {
                    note();
                }
                return true;
            }
            for (int choice = firstChoice; choice < choiceNumber; choice++) {
                if (!attempt(ledger, depth, choice, OMIT)
                        || !attempt(ledger, depth, choice, DOUBLE)) {
                    return false;
                }
            }
            return true;
        }

        private boolean attempt(Ledger ledger, int depth, int choice, int change) {
            if (stepsDone >= stepLimit) {
                return false;
            }
            stepsDone++;
            int act = choices[choice];
            workActs[depth] = act;
            workChanges[depth] = change;
            int times = change == OMIT ? -1 : 1;
            ledger.carry(act, times);
            boolean goesOn = extend(ledger, depth + 1, choice + 1);
            // Undone even when the steps have run out: a search leaves what is expected as it was.
            ledger.carry(act, -times);
            return goesOn;
        }

        private void note() {
            if (explanations == 0) {
                System.arraycopy(workActs, 0, firstActs, 0, size);
                System.arraycopy(workChanges, 0, firstChanges, 0, size);
                changes = size;
            }
            explanations++;
            for (int i = 0; i < size; i++) {
                uses[workActs[i]]++;
            }
        }

        boolean isOfPlainActs(Ledger ledger) {
            for (int i = 0; i < changes; i++) {
                if (ledger.rows[firstActs[i]][STATE] != PLAIN) {
                    return false;
                }
            }
            return true;
        }

        void settle(Ledger ledger) {
            for (int i = 0; i < changes; i++) {
                ledger.turn(firstActs[i], firstChanges[i] == OMIT ? OMITTED : DOUBLED);
            }
            changes = 0;
        }
    }
}
