/**
 * A moor of cells, walkers of kinds with headings and hopes, and fog by hours of the day:
 * who walks into whom in it, and is kept, as what, and till when.
 */
public final class FogKept {
    private static final int BEYOND = -1000000001;
    private static final int FULL = -1000000002;
    private static final int KIND = -1000000003;
    private static final int NONE = -1000000004;
    private static final int STATE = -1000000005;
    private static final int MISSING = -1000000006;
    private static final int SIZE = -1000000007;
    private static final int FINDINGS = 7;

    private static final int COLUMNS = 6;
    private static final int CELLS = 36;
    private static final int HEADINGS = 4;
    private static final int HOPES = 16;
    private static final int DAY = 24;
    private static final int ALL_DAY = 16777215;
    private static final int LAST_HOUR = 99999;
    private static final int MOST_WALKERS = 8;
    private static final int MOST_BYTES = 120;
    private static final int SHEETS = 4;
    private static final int MOST_NUMBERS = 40;

    private static final int KINDS = 6;
    private static final int WALKER = 0;
    private static final int SHEPHERD = 1;
    private static final int WIDOW = 2;
    private static final int LOST = 3;
    private static final int CANON = 4;
    private static final int BAILIFF = 5;
    private static final int[] KIND_ABOVE = {-1, WALKER, WALKER, WALKER, SHEPHERD, WIDOW};

    /** What answers for "FREE", both as whom one is kept with and as what. */
    private static final int NOBODY = -1;
    /** Stands for the other one where any other one (or itself) will do. */
    private static final int ANYONE = -2;

    private static final int LONG_LOOK = 100;
    private static final int LOOK = 60;
    private static final int SHORT_LOOK = 30;

    /** What a look ahead waits for. */
    private static final int TO_BE_KEPT = 0;
    private static final int TO_BE_FREE = 1;
    private static final int TO_BE_GLAD = 2;

    /** What is chosen anew in a look ahead. */
    private static final int CHOOSE_HEADING = 0;
    private static final int CHOOSE_BEGIN = 1;
    private static final int CHOOSE_KIND = 2;
    private static final int CHOOSE_ONLY_FOG = 3;
    private static final int CHOOSE_HOPE = 4;
    private static final int CHOOSE_MORE_FOG = 5;
    private static final int CHOOSE_VILLAGE = 6;

    private final Moor state = new Moor();
    private final Moor trial = new Moor();
    private final Moor latest = new Moor();
    private boolean hasLatest = false;
    private final Tape tape = new Tape();
    private final Sheet[] sheets = new Sheet[SHEETS];
    private final int[] found = new int[FINDINGS];

    public FogKept() {
        for (int s = 0; s < SHEETS; s++) {
            sheets[s] = new Sheet();
        }
    }

    // ---- the moor

    public int fog(int hours) {
        if (hours < 0 || hours > ALL_DAY) {
            return finding(BEYOND);
        }
        int was = state.fogHours;
        state.fogHours = hours;
        return was;
    }

    public int village(int cell) {
        if (!isCell(cell)) {
            return finding(BEYOND);
        }
        int was = state.villageCell;
        state.villageCell = cell;
        return was;
    }

    public int at(int cell) {
        if (!isCell(cell)) {
            return finding(BEYOND);
        }
        return state.setAt(cell);
    }

    // ---- walkers

    public int walker(int kind, int cell) {
        if (!isKind(kind) || !isCell(cell)) {
            return finding(BEYOND);
        }
        if (!state.hasRoom()) {
            return finding(FULL);
        }
        return state.come(kind, cell);
    }

    public int of(int walker, int what) {
        if (!state.has(walker) || what < 0 || what > 8) {
            return finding(BEYOND);
        }
        return state.tell(walker, what);
    }

    public int set(int walker, int what, int v) {
        if (!state.has(walker) || what < 1 || what > 4 || v < 0 || v >= valuesOf(what)) {
            return finding(BEYOND);
        }
        int was = state.tell(walker, what);
        switch (what) {
            case 1:
                state.moveTo(walker, v);
                break;
            case 2:
                state.starts[walker] = v;
                break;
            case 3:
                state.headings[walker] = v;
                break;
            default:
                state.hopes[walker] = v;
                break;
        }
        return was;
    }

    public int turn(int walker, int kind) {
        if (!state.has(walker) || !isKind(kind)) {
            return finding(BEYOND);
        }
        int was = state.kinds[walker];
        state.kinds[walker] = kind;
        return was;
    }

    public int as(int walker, int kind) {
        if (!state.has(walker) || !isKind(kind)) {
            return finding(BEYOND);
        }
        if (!isOrIsUnder(state.kinds[walker], kind)) {
            return finding(KIND);
        }
        return state.hopes[walker];
    }

    public int free(int walker) {
        if (!state.has(walker)) {
            return finding(BEYOND);
        }
        if (state.isFree(walker)) {
            return finding(STATE);
        }
        int was = state.partners[walker];
        state.release(walker);
        return was;
    }

    public int keep(int walker, int other) {
        if (!areTwo(walker, other)) {
            return finding(BEYOND);
        }
        if (!state.isFree(walker) || !state.isFree(other)
                || state.cells[walker] != state.cells[other]) {
            return finding(STATE);
        }
        state.keepTwo(walker, other);
        return Integer.bitCount(state.keptSet());
    }

    // ---- hours

    public int hours(int n) {
        if (n < 1 || n > LOOK) {
            return finding(BEYOND);
        }
        if (state.time > LAST_HOUR - n) {
            return finding(STATE);
        }
        state.pass(n);
        return state.keptSet();
    }

    public int now(int what) {
        switch (what) {
            case 0:
                return state.time;
            case 1:
                return state.fogHours;
            case 2:
                return state.isFoggy() ? 1 : 0;
            case 3:
                return state.keptSet();
            case 4:
                return state.gladSet();
            case 5:
                return state.villageCell;
            default:
                return finding(BEYOND);
        }
    }

    public int on(int walker, int n, int what) {
        if (!state.has(walker) || n < 0 || n > LOOK || what < 0 || what > 2) {
            return finding(BEYOND);
        }
        trial.takeFrom(state);
        trial.pass(n);
        if (what == 0) {
            return trial.cells[walker];
        }
        return what == 1 ? trial.partners[walker] : trial.names[walker];
    }

    public int meet(int walker, int other) {
        if (!areTwo(walker, other)) {
            return finding(BEYOND);
        }
        return orNone(firstFromNow(TO_BE_KEPT, walker, other));
    }

    public int when(int walker) {
        if (!state.has(walker)) {
            return finding(BEYOND);
        }
        return orNone(firstFromNow(TO_BE_KEPT, walker, ANYONE));
    }

    public int till(int walker) {
        if (!state.has(walker)) {
            return finding(BEYOND);
        }
        return orNone(firstFromNow(TO_BE_FREE, walker, ANYONE));
    }

    public int glad(int walker) {
        if (!state.has(walker)) {
            return finding(BEYOND);
        }
        return orNone(firstFromNow(TO_BE_GLAD, walker, ANYONE));
    }

    // ---- what is best

    public int heading(int walker, int other) {
        if (!areTwo(walker, other)) {
            return finding(BEYOND);
        }
        return orNone(soonestChoice(CHOOSE_HEADING, HEADINGS, LONG_LOOK, walker, other));
    }

    public int begin(int walker, int other) {
        if (!areTwo(walker, other)) {
            return finding(BEYOND);
        }
        return orNone(soonestChoice(CHOOSE_BEGIN, CELLS, SHORT_LOOK, walker, other));
    }

    public int kind(int walker) {
        if (!state.has(walker)) {
            return finding(BEYOND);
        }
        return orNone(soonestChoice(CHOOSE_KIND, KINDS, LONG_LOOK, walker, ANYONE));
    }

    public int hour(int walker, int other) {
        if (!areTwo(walker, other)) {
            return finding(BEYOND);
        }
        return orNone(soonestChoice(CHOOSE_ONLY_FOG, DAY, LOOK, walker, other));
    }

    public int hope(int walker, int n) {
        if (!state.has(walker) || n < 0 || n > LOOK) {
            return finding(BEYOND);
        }
        return fullestChoice(CHOOSE_HOPE, HOPES, n, walker);
    }

    public int more(int n) {
        if (n < 0 || n > LOOK) {
            return finding(BEYOND);
        }
        return fullestChoice(CHOOSE_MORE_FOG, DAY, n, NOBODY);
    }

    public int best(int n) {
        if (n < 0 || n > SHORT_LOOK) {
            return finding(BEYOND);
        }
        return fullestChoice(CHOOSE_VILLAGE, CELLS, n, NOBODY);
    }

    // ---- the text

    public int feed(int bytes, int n) {
        if (n < 1 || n > 4) {
            return finding(BEYOND);
        }
        if (tape.length > MOST_BYTES - n) {
            return finding(FULL);
        }
        tape.append(bytes, n);
        return tape.length;
    }

    public int wipe() {
        int was = tape.length;
        tape.length = 0;
        return was;
    }

    public int moor() {
        // A fault may come behind good items, which must then not have come: they come to a trial.
        trial.takeFrom(state);
        int items = tape.tellItems(trial);
        tape.length = 0;
        if (items > 0) {
            state.takeFrom(trial);
        }
        return items;
    }

    // ---- sheets

    public int sheet(int s, int bits, int n) {
        boolean known = bits == 0 || bits == 8 || bits == 16 || bits == 64;
        Sheet sheet = sheetOf(s);
        if (sheet == null || !known) {
            return finding(BEYOND);
        }
        if (n < 0) {
            return finding(SIZE);
        }
        if (n > MOST_NUMBERS) {
            return finding(BEYOND);
        }
        sheet.layOut(bits, n);
        return sheet.size;
    }

    public long write(int s, int i, long v) {
        Sheet sheet = sheetOf(s);
        if (sheet == null) {
            return finding(BEYOND);
        }
        if (sheet.isMissing()) {
            return finding(MISSING);
        }
        if (i < 0 || i >= sheet.size) {
            return finding(BEYOND);
        }
        long was = sheet.numbers[i];
        sheet.put(i, v);
        return was;
    }

    public int copy(int s, int from, int t, int to, int n) {
        Sheet source = sheetOf(s);
        Sheet target = sheetOf(t);
        if (source == null || target == null) {
            return finding(BEYOND);
        }
        if (source.isMissing() || target.isMissing()) {
            return finding(MISSING);
        }
        if (source.bits != target.bits) {
            return finding(KIND);
        }
        if (!source.hasRun(from, n) || !target.hasRun(to, n)) {
            return finding(BEYOND);
        }
        System.arraycopy(source.numbers, from, target.numbers, to, n);
        return n;
    }

    public int lays(int s) {
        Sheet sheet = sheetOf(s);
        if (sheet == null) {
            return finding(BEYOND);
        }
        if (sheet.isMissing()) {
            return finding(MISSING);
        }
        int came = 0;
        for (int w = 0; w < sheet.size && w < state.walkers; w++) {
            long v = sheet.numbers[w];
            if (v >= 0 && v < HOPES) {
                state.hopes[w] = (int) v;
                came++;
            }
        }
        return came;
    }

    public int book(int s, int walker) {
        int wrong = sheetAndWalkerFinding(s, walker);
        Sheet sheet = sheetOf(s);
        if (wrong != 0 || sheet == null) {
            return finding(wrong);
        }
        trial.takeFrom(state);
        for (int i = 0; i < sheet.size; i++) {
            sheet.put(i, trial.cells[walker]);
            trial.passHour();
        }
        return sheet.size;
    }

    public int read(int s, int walker) {
        int wrong = sheetAndWalkerFinding(s, walker);
        Sheet sheet = sheetOf(s);
        if (wrong != 0 || sheet == null) {
            return finding(wrong);
        }
        int pairs = 0;
        for (int k = 0; k < KINDS; k++) {
            for (int d = 0; d < HEADINGS; d++) {
                trial.takeFrom(state);
                trial.kinds[walker] = k;
                trial.headings[walker] = d;
                if (trialGoesBy(sheet, walker)) {
                    pairs++;
                }
            }
        }
        return pairs;
    }

    // ---- images

    public int image() {
        latest.takeFrom(state);
        hasLatest = true;
        return 1;
    }

    public int undo() {
        if (!hasLatest) {
            return finding(NONE);
        }
        state.takeFrom(latest);
        return state.walkers;
    }

    public int tear() {
        int was = hasLatest ? 1 : 0;
        hasLatest = false;
        return was;
    }

    public int count(int what) {
        switch (what) {
            case 0:
                return state.walkers;
            case 1:
                return tape.length;
            case 2:
                return Integer.bitCount(state.keptSet());
            case 3:
                return Integer.bitCount(state.fogHours);
            default:
                return finding(BEYOND);
        }
    }

    public int status(int which) {
        if (which < -1 || which >= FINDINGS) {
            return finding(BEYOND);
        }
        if (which >= 0) {
            return found[which];
        }
        int all = 0;
        for (int i = 0; i < FINDINGS; i++) {
            all += found[i];
        }
        return all;
    }

    // ---- helpers

    private int finding(int finding) {
        int i = BEYOND - finding;
        if (i >= 0 && i < FINDINGS) {
            found[i]++;
        }
        return finding;
    }

    private int orNone(int answer) {
        return answer >= 0 ? answer : finding(NONE);
    }

    private boolean areTwo(int walker, int other) {
        return state.has(walker) && state.has(other) && walker != other;
    }

    private Sheet sheetOf(int s) {
        return s >= 0 && s < SHEETS ? sheets[s] : null;
    }

    /** The finding (not yet counted) that a sheet and a walker are asked for, or 0. */
    private int sheetAndWalkerFinding(int s, int walker) {
        Sheet sheet = sheetOf(s);
        if (sheet == null) {
            return BEYOND;
        }
        if (sheet.isMissing()) {
            return MISSING;
        }
        return state.has(walker) ? 0 : BEYOND;
    }

    private boolean trialGoesBy(Sheet sheet, int walker) {
        for (int i = 0; i < sheet.size; i++) {
            if (sheet.numbers[i] != trial.cells[walker]) {
                return false;
            }
            trial.passHour();
        }
        return true;
    }

    private int firstFromNow(int event, int walker, int other) {
        trial.takeFrom(state);
        return firstInTrial(event, walker, other, LONG_LOOK);
    }

    /** In how many hours (0 to last) the event is first in the trial, or -1. */
    private int firstInTrial(int event, int walker, int other, int last) {
        for (int t = 0; t <= last; t++) {
            if (trialShows(event, walker, other)) {
                return t;
            }
            if (t < last) {
                trial.passHour();
            }
        }
        return -1;
    }

    private boolean trialShows(int event, int walker, int other) {
        switch (event) {
            case TO_BE_KEPT:
                return other == ANYONE ? !trial.isFree(walker) : trial.partners[walker] == other;
            case TO_BE_FREE:
                return trial.isFree(walker);
            default:
                return trial.isGlad(walker);
        }
    }

    private void suppose(int what, int choice, int walker) {
        trial.takeFrom(state);
        switch (what) {
            case CHOOSE_HEADING:
                trial.headings[walker] = choice;
                break;
            case CHOOSE_BEGIN:
                trial.release(walker);
                trial.cells[walker] = choice;
                break;
            case CHOOSE_KIND:
                trial.kinds[walker] = choice;
                break;
            case CHOOSE_ONLY_FOG:
                trial.fogHours = 1 << choice;
                break;
            case CHOOSE_HOPE:
                trial.hopes[walker] = choice;
                break;
            case CHOOSE_MORE_FOG:
                trial.fogHours |= 1 << choice;
                break;
            default:
                trial.villageCell = choice;
                break;
        }
    }

    /** The least choice with which one is kept with the other one soonest, or -1. */
    private int soonestChoice(int what, int choices, int within, int walker, int other) {
        int chosen = -1;
        int last = within;
        // A later choice must be sooner by an hour, so that the least of several is chosen.
        for (int c = 0; c < choices && last >= 0; c++) {
            suppose(what, c, walker);
            int t = firstInTrial(TO_BE_KEPT, walker, other, last);
            if (t >= 0) {
                chosen = c;
                last = t - 1;
            }
        }
        return chosen;
    }

    /** The least choice with which most are kept (for a hope: glad) on n hours. */
    private int fullestChoice(int what, int choices, int n, int walker) {
        int chosen = 0;
        int most = -1;
        // No choice can be better than one with which all are.
        for (int c = 0; c < choices && most < state.walkers; c++) {
            suppose(what, c, walker);
            trial.pass(n);
            int many = Integer.bitCount(what == CHOOSE_HOPE ? trial.gladSet() : trial.keptSet());
            if (many > most) {
                chosen = c;
                most = many;
            }
        }
        return chosen;
    }

    private static boolean isCell(int cell) {
        return cell >= 0 && cell < CELLS;
    }

    private static boolean isKind(int kind) {
        return kind >= 0 && kind < KINDS;
    }

    private static boolean isOrIsUnder(int kind, int above) {
        int k = kind;
        for (int i = 0; i < KINDS && isKind(k); i++) {
            if (k == above) {
                return true;
            }
            k = KIND_ABOVE[k];
        }
        return false;
    }

    /** How many values there are, from 0 on, of what can be set of a walker. */
    private static int valuesOf(int what) {
        switch (what) {
            case 1:
            case 2:
                return CELLS;
            case 3:
                return HEADINGS;
            default:
                return HOPES;
        }
    }

    private static int widowSteps(int h) {
        return h % 2 == 0 ? 1 : 0;
    }

    private static int everyThird(int h) {
        return h % 3 == 0 ? 1 : 0;
    }

    private static int stepsOf(int kind, int h) {
        switch (kind) {
            case WIDOW:
                return widowSteps(h);
            case LOST:
                return 0;
            case CANON:
                return 2;
            case BAILIFF:
                return widowSteps(h) + everyThird(h);
            default:
                return 1;
        }
    }

    private static int turnsOf(int kind, int h) {
        switch (kind) {
            case SHEPHERD:
            case CANON:
                return everyThird(h);
            case LOST:
                return 1;
            case BAILIFF:
                return h % 4 == 1 ? 2 : 0;
            default:
                return 0;
        }
    }

    /** The cell one step from a cell, or -1 where the moor ends. */
    private static int cellTowards(int cell, int heading) {
        switch (heading) {
            case 0:
                return cell >= COLUMNS ? cell - COLUMNS : -1;
            case 1:
                return cell % COLUMNS < COLUMNS - 1 ? cell + 1 : -1;
            case 2:
                return cell < CELLS - COLUMNS ? cell + COLUMNS : -1;
            default:
                return cell % COLUMNS > 0 ? cell - 1 : -1;
        }
    }

    /** All that section 1 of the document tells, but for the tape. */
    private static final class Moor {
        int time = 0;
        int fogHours = 0;
        int villageCell = CELLS - 1;
        int walkers = 0;
        final int[] kinds = new int[MOST_WALKERS];
        final int[] cells = new int[MOST_WALKERS];
        final int[] starts = new int[MOST_WALKERS];
        final int[] headings = new int[MOST_WALKERS];
        final int[] hopes = new int[MOST_WALKERS];
        final int[] partners = new int[MOST_WALKERS];
        final int[] names = new int[MOST_WALKERS];

        void takeFrom(Moor other) {
            time = other.time;
            fogHours = other.fogHours;
            villageCell = other.villageCell;
            walkers = other.walkers;
            System.arraycopy(other.kinds, 0, kinds, 0, MOST_WALKERS);
            System.arraycopy(other.cells, 0, cells, 0, MOST_WALKERS);
            System.arraycopy(other.starts, 0, starts, 0, MOST_WALKERS);
            System.arraycopy(other.headings, 0, headings, 0, MOST_WALKERS);
            System.arraycopy(other.hopes, 0, hopes, 0, MOST_WALKERS);
            System.arraycopy(other.partners, 0, partners, 0, MOST_WALKERS);
            System.arraycopy(other.names, 0, names, 0, MOST_WALKERS);
        }

        boolean has(int w) {
            return w >= 0 && w < walkers;
        }

        boolean hasRoom() {
            return walkers < MOST_WALKERS;
        }

        /** One more comes; the number, or -1 where there is no room. */
        int come(int kind, int cell) {
            if (!hasRoom()) {
                return -1;
            }
            int w = walkers;
            kinds[w] = kind;
            cells[w] = cell;
            starts[w] = cell;
            headings[w] = 0;
            hopes[w] = 0;
            partners[w] = NOBODY;
            names[w] = NOBODY;
            walkers++;
            return w;
        }

        int tell(int w, int what) {
            switch (what) {
                case 0:
                    return kinds[w];
                case 1:
                    return cells[w];
                case 2:
                    return starts[w];
                case 3:
                    return headings[w];
                case 4:
                    return hopes[w];
                case 5:
                    return partners[w];
                case 6:
                    return names[w];
                case 7:
                    return stepsOf(kinds[w], time);
                default:
                    return turnsOf(kinds[w], time);
            }
        }

        boolean isFree(int w) {
            return partners[w] == NOBODY;
        }

        boolean isGlad(int w) {
            return !isFree(w) && partners[w] != w && names[w] == hopes[w];
        }

        boolean isFoggy() {
            return ((fogHours >> (time % DAY)) & 1) == 1;
        }

        int setAt(int cell) {
            int those = 0;
            for (int w = 0; w < walkers; w++) {
                if (cells[w] == cell) {
                    those |= 1 << w;
                }
            }
            return those;
        }

        int keptSet() {
            int those = 0;
            for (int w = 0; w < walkers; w++) {
                if (!isFree(w)) {
                    those |= 1 << w;
                }
            }
            return those;
        }

        int gladSet() {
            int those = 0;
            for (int w = 0; w < walkers; w++) {
                if (isGlad(w)) {
                    those |= 1 << w;
                }
            }
            return those;
        }

        /** One goes to a cell; whom it is kept with goes along. */
        void moveTo(int w, int cell) {
            cells[w] = cell;
            bringAlong(w);
        }

        /** One is free then, and whom it was kept with. */
        void release(int w) {
            int other = partners[w];
            if (has(other)) {
                partners[other] = NOBODY;
                names[other] = NOBODY;
            }
            partners[w] = NOBODY;
            names[w] = NOBODY;
        }

        /** Two are kept; or one by itself, where both are the same. */
        void keepTwo(int w, int other) {
            partners[w] = other;
            names[w] = hopes[other];
            partners[other] = w;
            names[other] = hopes[w];
        }

        void pass(int n) {
            for (int i = 0; i < n; i++) {
                passHour();
            }
        }

        void passHour() {
            boolean foggy = isFoggy();
            if (!foggy) {
                lift();
            }
            for (int w = 0; w < walkers; w++) {
                if (isFree(w) || partners[w] >= w) {
                    go(w);
                    bringAlong(w);
                }
            }
            if (foggy) {
                collide();
            }
            time++;
        }

        private void lift() {
            for (int w = 0; w < walkers; w++) {
                if (cells[w] != villageCell) {
                    partners[w] = NOBODY;
                    names[w] = NOBODY;
                }
            }
        }

        private void go(int w) {
            headings[w] = (headings[w] + turnsOf(kinds[w], time)) % HEADINGS;
            int steps = stepsOf(kinds[w], time);
            for (int i = 0; i < steps; i++) {
                int next = cellTowards(cells[w], headings[w]);
                if (next >= 0) {
                    cells[w] = next;
                } else {
                    headings[w] = (headings[w] + 1) % HEADINGS;
                }
            }
        }

        private void bringAlong(int w) {
            int other = partners[w];
            if (has(other)) {
                cells[other] = cells[w];
            }
        }

        /** What is kept at one cell touches no other cell, so the cells need not be asked by numbers. */
        private void collide() {
            for (int w = 0; w < walkers; w++) {
                if (isFree(w)) {
                    int other = nextFreeBeside(w);
                    if (has(other)) {
                        keepTwo(w, other);
                    } else if (kinds[w] == BAILIFF && cells[w] == starts[w]) {
                        keepTwo(w, w);
                    }
                }
            }
        }

        private int nextFreeBeside(int w) {
            for (int other = w + 1; other < walkers; other++) {
                if (cells[other] == cells[w] && isFree(other)) {
                    return other;
                }
            }
            return -1;
        }
    }

    /** A row of numbers; it has room for the most from the first, so that a new layout makes nothing. */
    private static final class Sheet {
        int bits = 0;
        int size = 0;
        final long[] numbers = new long[MOST_NUMBERS];

        boolean isMissing() {
            return bits == 0;
        }

        void layOut(int newBits, int n) {
            bits = newBits;
            size = newBits == 0 ? 0 : n;
            for (int i = 0; i < MOST_NUMBERS; i++) {
                numbers[i] = 0;
            }
        }

        void put(int i, long v) {
            if (bits == 8) {
                numbers[i] = (byte) v;
            } else if (bits == 16) {
                numbers[i] = (short) v;
            } else {
                numbers[i] = v;
            }
        }

        boolean hasRun(int from, int n) {
            return from >= 0 && n >= 0 && n <= size && from <= size - n;
        }
    }

    /** The bytes of a text, and the reading of it, token by token. */
    private static final class Tape {
        private static final int END = 0;
        private static final int WORD = 1;
        private static final int NUMBER = 2;
        private static final int SIGN = 3;
        private static final int OTHER = 4;
        private static final int TOO_MUCH = 1000;

        int length = 0;
        private final int[] bytes = new int[MOST_BYTES];
        /** The token that is looked at: its type, its first byte's place, the place behind it. */
        private int type = END;
        private int start = 0;
        private int behind = 0;
        /** The value of the token, if it is a number, and of the number that was taken last. */
        private int value = 0;
        private int taken = 0;

        void append(int number, int n) {
            for (int i = n - 1; i >= 0 && length < MOST_BYTES; i--) {
                bytes[length] = (number >> (8 * i)) & 255;
                length++;
            }
        }

        /** The items come to a moor: how many; or -1 less the place of the fault. */
        int tellItems(Moor to) {
            behind = 0;
            look();
            for (int items = 1; items <= MOST_BYTES; items++) {
                if (!takeItem(to)) {
                    return -1 - start;
                }
                if (type == END) {
                    return items;
                }
                if (type != SIGN) {
                    return -1 - start;
                }
                look();
            }
            return -1 - start;
        }

        private boolean takeItem(Moor to) {
            int kind = kindNamed();
            if (kind >= 0) {
                return takeWalker(to, kind);
            }
            if (takeWord("fog")) {
                return takeDayHours(to, true);
            }
            if (takeWord("clear")) {
                return takeDayHours(to, false);
            }
            if (takeWord("village") && takeNumber(0, CELLS - 1)) {
                to.villageCell = taken;
                return true;
            }
            return false;
        }

        private boolean takeWalker(Moor to, int kind) {
            // One too many is at fault by its name, so the name is not left before this is asked.
            if (!to.hasRoom()) {
                return false;
            }
            look();
            if (!takeWord("at") || !takeNumber(0, CELLS - 1)) {
                return false;
            }
            int w = to.come(kind, taken);
            if (!to.has(w)) {
                return false;
            }
            if (takeWord("heading")) {
                if (!takeNumber(0, HEADINGS - 1)) {
                    return false;
                }
                to.headings[w] = taken;
            }
            if (takeWord("hopes")) {
                if (!takeNumber(0, HOPES - 1)) {
                    return false;
                }
                to.hopes[w] = taken;
            }
            return true;
        }

        private boolean takeDayHours(Moor to, boolean foggy) {
            if (!takeNumber(0, DAY - 1)) {
                return false;
            }
            int first = taken;
            if (takeWord("to") && !takeNumber(first, DAY - 1)) {
                return false;
            }
            for (int h = first; h <= taken; h++) {
                if (foggy) {
                    to.fogHours |= 1 << h;
                } else {
                    to.fogHours &= ~(1 << h);
                }
            }
            return true;
        }

        private boolean takeWord(String word) {
            if (!isWord(word)) {
                return false;
            }
            look();
            return true;
        }

        private boolean takeNumber(int least, int most) {
            if (type != NUMBER || value < least || value > most) {
                return false;
            }
            taken = value;
            look();
            return true;
        }

        private int kindNamed() {
            for (int k = 0; k < KINDS; k++) {
                if (isWord(nameOf(k))) {
                    return k;
                }
            }
            return -1;
        }

        private static String nameOf(int kind) {
            switch (kind) {
                case WALKER:
                    return "walker";
                case SHEPHERD:
                    return "shepherd";
                case WIDOW:
                    return "widow";
                case LOST:
                    return "lost";
                case CANON:
                    return "canon";
                default:
                    return "bailiff";
            }
        }

        private boolean isWord(String word) {
            if (type != WORD || behind - start != word.length()) {
                return false;
            }
            for (int i = 0; i < word.length(); i++) {
                if (bytes[start + i] != word.charAt(i)) {
                    return false;
                }
            }
            return true;
        }

        /** Looks at the next token. At the end its place is the length, as a fault there is told. */
        private void look() {
            start = behind;
            while (start < length && bytes[start] == ' ') {
                start++;
            }
            if (start >= length) {
                type = END;
                behind = start;
                return;
            }
            type = typeOf(bytes[start]);
            behind = start + 1;
            if (type == WORD || type == NUMBER) {
                while (behind < length && typeOf(bytes[behind]) == type) {
                    behind++;
                }
            }
            if (type == NUMBER) {
                weigh();
            }
        }

        private void weigh() {
            value = 0;
            for (int i = start; i < behind; i++) {
                value = Math.min(value * 10 + bytes[i] - '0', TOO_MUCH);
            }
        }

        private static int typeOf(int b) {
            if (b >= 'a' && b <= 'z') {
                return WORD;
            }
            if (b >= '0' && b <= '9') {
                return NUMBER;
            }
            return b == ';' ? SIGN : OTHER;
        }
    }
}
