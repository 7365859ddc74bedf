import java.util.Arrays;

/** Visibility on a small height grid; ../shared/DOC.md has the promises that the methods keep. */
public final class HillSight {
    public static final int UNKNOWN = -1, BAD = -2, LATE = -3, FULL = -4, NONE = -9;

    private static final int CELL_LIMIT = 36;
    private static final int TOWER_LIMIT = 5;
    private static final int TEXT_LIMIT = 90;
    private static final int CHANGE_LIMIT = 14;
    private static final int OBSERVATION_LIMIT = 6;
    private static final int EVENT_LIMIT = 3;
    private static final int DRAW_LIMIT = 20;
    private static final int RISE_LIMIT = 99;

    private static final int EYE = 0;
    private static final int MARK = 1;
    private static final int BEND = 2;
    private static final int SIGHT = 3;
    private static final int SETTING_COUNT = 4;
    /** The letter at index k gives setting k in a map text. */
    private static final String SETTING_LETTERS = "embs";

    private static final int RAISED = 0;
    private static final int BUILT = 1;
    private static final int RAZED = 2;
    private static final int ADJUSTED = 3;

    private static final int[] COLUMN_STEPS = {1, 1, 0, -1, -1, -1, 0, 1};
    private static final int[] ROW_STEPS = {0, 1, 1, 1, 0, -1, -1, -1};

    /** A multiple of 1 to 5, so that a cell shared by up to five towers has whole parts. */
    private static final int SHARE_PARTS = 60;
    private static final int EVENT_BASE = 100000;
    private static final long RANDOM_FACTOR = 6364136223846793005L;
    private static final long RANDOM_SUMMAND = 1442695040888963407L;

    private final Land land;
    /** Where a text is read and events and draws are tried, so that the land itself stays. */
    private final Land trial;
    private final Land savedFirst;
    private final Land savedSecond;
    /** Bit k tells whether something is saved in slot k. */
    private int savedSlots;
    private final MapText text;
    private final Journal journal;
    private final Observations observations;
    /** The views of all cells with one rise, for best() and two(). */
    private final long[] views;
    private long random;

    public HillSight() {
        land = new Land();
        trial = new Land();
        savedFirst = new Land();
        savedSecond = new Land();
        text = new MapText();
        journal = new Journal();
        observations = new Observations();
        views = new long[CELL_LIMIT];
    }

    public int write(int letter) {
        if (letter < 0 || letter > 255) {
            return BAD;
        }
        return text.append((char) letter) ? text.length : FULL;
    }

    public int wipe() {
        int had = text.length;
        text.length = 0;
        return had;
    }

    public int fault() {
        return text.readInto(trial) ? NONE : text.position;
    }

    public int map() {
        if (!text.readInto(trial)) {
            return LATE;
        }
        land.copyFrom(trial);
        journal.count = 0;
        savedSlots = 0;
        return land.cellCount();
    }

    public int about(int what) {
        switch (what) {
            case 0: return land.columns;
            case 1: return land.rows;
            case 2: return land.towers;
            case 3: return land.settings[EYE];
            case 4: return land.settings[MARK];
            case 5: return land.settings[BEND];
            case 6: return land.settings[SIGHT];
            case 7: return Long.bitCount(land.hiddenSet());
            case 8: return land.regionCount(land.hiddenSet());
            case 9: return journal.count;
            case 10: return observations.count;
            case 11: return text.length;
            default: return BAD;
        }
    }

    public int cell(int cell, int what) {
        if (!land.hasCell(cell)) {
            return UNKNOWN;
        }
        switch (what) {
            case 0: return land.heightOf(cell);
            case 1: return land.towersOn(cell);
            case 2: return land.watchersOf(cell);
            case 3: return Long.bitCount(land.viewFrom(cell, land.settings[EYE]));
            case 4: return land.regionOf(cell, land.hiddenSet());
            default: return BAD;
        }
    }

    public int tower(int tower, int what) {
        if (!land.hasTower(tower)) {
            return UNKNOWN;
        }
        switch (what) {
            case 0: return land.towerCells[tower];
            case 1: return land.towerRises[tower];
            case 2: return Long.bitCount(land.towerView(tower));
            case 3: return Long.bitCount(land.seenAlone(tower));
            default: return BAD;
        }
    }

    public int raise(int cell, int height) {
        if (!land.hasCell(cell)) {
            return UNKNOWN;
        }
        if (!isDigit(height)) {
            return BAD;
        }
        int before = land.heightOf(cell);
        journal.note(RAISED, cell, before, 0);
        land.putHeight(cell, height);
        return before;
    }

    public int build(int cell, int rise) {
        if (!land.hasCell(cell)) {
            return UNKNOWN;
        }
        if (!isDigit(rise)) {
            return BAD;
        }
        if (land.towers >= TOWER_LIMIT) {
            return FULL;
        }
        journal.note(BUILT, land.towers, cell, rise);
        land.putTower(land.towers, cell, rise);
        return land.towers;
    }

    public int raze(int tower) {
        if (!land.hasTower(tower)) {
            return UNKNOWN;
        }
        journal.note(RAZED, tower, land.towerCells[tower], land.towerRises[tower]);
        land.dropTower(tower);
        return land.towers;
    }

    public int set(int what, int v) {
        if (!isSetting(what, v)) {
            return BAD;
        }
        int before = land.settings[what];
        journal.note(ADJUSTED, what, before, 0);
        land.putSetting(what, v);
        return before;
    }

    public int undo() {
        if (journal.count == 0) {
            return LATE;
        }
        journal.takeBack(land);
        return journal.count;
    }

    public int sees(int from, int to, int what) {
        if (!land.hasCell(from) || !land.hasCell(to)) {
            return UNKNOWN;
        }
        int eye = land.settings[EYE];
        switch (what) {
            case 0: return land.canSee(from, eye, to) ? 1 : 0;
            case 1: return land.distance(from, to);
            case 2: return land.firstBlock(from, eye, to);
            case 3: return land.distance(from, to) < 2 ? NONE : 1000 + land.greatestExcess(from, eye, to);
            case 4: return land.neededRise(from, to);
            default: return BAD;
        }
    }

    public long view(int cell) {
        return land.hasCell(cell) ? land.viewFrom(cell, land.settings[EYE]) : UNKNOWN;
    }

    public long watched(int tower) {
        return land.hasTower(tower) ? land.towerView(tower) : UNKNOWN;
    }

    public long joined(int way) {
        if (way < 0 || way > 3) {
            return BAD;
        }
        long result = land.towers == 0 ? 0L : land.towerView(0);
        for (int t = 1; t < land.towers; t++) {
            result = combine(way, result, land.towerView(t));
        }
        return result;
    }

    public long hollow(int hollow) {
        if (hollow < 0 || hollow >= CELL_LIMIT) {
            return UNKNOWN;
        }
        long region = land.regionNumbered(hollow, land.hiddenSet());
        return region == 0L ? UNKNOWN : region;
    }

    public int last(int cell, int direction) {
        if (!land.hasCell(cell)) {
            return UNKNOWN;
        }
        if (direction < 0 || direction >= COLUMN_STEPS.length) {
            return BAD;
        }
        int eye = land.settings[EYE];
        int column = land.columnOf(cell);
        int row = land.rowOf(cell);
        int found = cell;
        for (int step = 0; step < CELL_LIMIT; step++) {
            column += COLUMN_STEPS[direction];
            row += ROW_STEPS[direction];
            if (!land.isInside(column, row)) {
                break;
            }
            int reached = row * land.columns + column;
            if (land.canSee(cell, eye, reached)) {
                found = reached;
            }
        }
        return found;
    }

    public int best(int rise, int what) {
        if (!isDigit(rise) || what < 0 || what > 1) {
            return BAD;
        }
        long hidden = land.hiddenSet();
        int place = 0;
        int fewest = CELL_LIMIT + 1;
        for (int c = 0; c < land.cellCount(); c++) {
            int left = Long.bitCount(hidden & ~land.viewFrom(c, rise));
            if (left < fewest) {
                fewest = left;
                place = c;
            }
        }
        return what == 0 ? place : fewest;
    }

    public int two(int rise, int what) {
        if (!isDigit(rise) || what < 0 || what > 2) {
            return BAD;
        }
        fillViews(rise);
        long hidden = land.hiddenSet();
        int cells = Math.min(land.cellCount(), views.length);
        int first = 0;
        int second = 0;
        int fewest = CELL_LIMIT + 1;
        for (int a = 0; a < cells; a++) {
            for (int b = a; b < cells; b++) {
                int left = Long.bitCount(hidden & ~(views[a] | views[b]));
                if (left < fewest) {
                    fewest = left;
                    first = a;
                    second = b;
                }
            }
        }
        if (what == 2) {
            return fewest;
        }
        return what == 0 ? first : second;
    }

    public int part(boolean upper) {
        int cells = land.cellCount();
        return lowestTerms(cells - Long.bitCount(land.hiddenSet()), cells, upper);
    }

    public int judge(int n, long row) {
        if (n < 1 || n > EVENT_LIMIT || row < 0L) {
            return BAD;
        }
        long unit = 1L;
        for (int i = 0; i < n; i++) {
            unit *= EVENT_BASE;
        }
        if (row >= unit) {
            return BAD;
        }
        trial.copyFrom(land);
        for (int i = 0; i < n; i++) {
            unit /= EVENT_BASE;
            if (unit < 1L || !holds((int) (row / unit % EVENT_BASE))) {
                return i;
            }
        }
        return NONE;
    }

    public int find(int cell, int was) {
        if (!land.hasCell(cell)) {
            return UNKNOWN;
        }
        if (was != 0 && was != 1) {
            return BAD;
        }
        return observations.add(cell, was == 1) ? observations.count : FULL;
    }

    public int lose() {
        int had = observations.count;
        observations.count = 0;
        return had;
    }

    public long which() {
        long result = 0L;
        for (int c = 0; c < land.cellCount(); c++) {
            if (observations.agreeFrom(c, land)) {
                result |= 1L << c;
            }
        }
        return result;
    }

    public int share(int tower, boolean upper) {
        if (!land.hasTower(tower)) {
            return UNKNOWN;
        }
        // Among the towers that see a cell each is equally likely to come first, so each has an equal part of it.
        long view = land.towerView(tower);
        int parts = 0;
        for (int c = 0; c < land.cellCount(); c++) {
            int watchers = contains(view, c) ? land.watchersOf(c) : 0;
            if (watchers > 0) {
                parts += SHARE_PARTS / watchers;
            }
        }
        return lowestTerms(parts, SHARE_PARTS, upper);
    }

    public int chance(int cell, int x, boolean upper) {
        if (!land.hasCell(cell)) {
            return UNKNOWN;
        }
        if (x < 0 || x > 10) {
            return BAD;
        }
        int allMissing = 1;
        int whole = 1;
        int watchers = land.watchersOf(cell);
        for (int t = 0; t < watchers; t++) {
            allMissing *= x;
            whole *= 10;
        }
        return lowestTerms(whole - allMissing, whole, upper);
    }

    public long seed(long v) {
        long before = random;
        random = v;
        return before;
    }

    public int drawn(int m) {
        if (m < 1 || m > DRAW_LIMIT) {
            return BAD;
        }
        trial.copyFrom(land);
        int cells = Math.max(1, trial.cellCount());
        int sum = 0;
        for (int i = 0; i < m; i++) {
            random = random * RANDOM_FACTOR + RANDOM_SUMMAND;
            int v = (int) (random >>> 33);
            trial.putHeight(v % cells, v / 64 % 10);
            sum += Long.bitCount(trial.hiddenSet());
        }
        return sum;
    }

    public int keep(int slot) {
        if (!isSlot(slot)) {
            return UNKNOWN;
        }
        slotLand(slot).copyFrom(land);
        savedSlots |= 1 << slot;
        return land.towers;
    }

    public int again(int slot) {
        if (!isSlot(slot)) {
            return UNKNOWN;
        }
        if ((savedSlots >> slot & 1) == 0) {
            return LATE;
        }
        land.copyFrom(slotLand(slot));
        journal.count = 0;
        return land.towers;
    }

    private Land slotLand(int slot) {
        return slot == 0 ? savedFirst : savedSecond;
    }

    private void fillViews(int rise) {
        for (int c = 0; c < land.cellCount() && c < views.length; c++) {
            views[c] = land.viewFrom(c, rise);
        }
    }

    /** Whether an event of five digits is possible, and true if it is a statement; carries it out on the trial land. */
    private boolean holds(int event) {
        int a = event / 1000 % 10;
        int b = event / 100 % 10;
        int c = event / 10 % 10;
        int d = event % 10;
        int place = 10 * a + b;
        if (d != 0) {
            return false;
        }
        switch (event / 10000) {
            case 1: return trial.putHeight(place, c);
            case 2: return trial.putTower(trial.towers, place, c);
            case 3: return b == 0 && c == 0 && trial.dropTower(a);
            case 4: return c == 0 && Long.bitCount(trial.hiddenSet()) == place;
            case 5: return c <= 1 && trial.hasCell(place) && contains(trial.hiddenSet(), place) == (c == 0);
            case 6: return c == 0 && trial.putSetting(a, b);
            case 7: return b == 0 && c == 0 && trial.regionCount(trial.hiddenSet()) == a;
            default: return false;
        }
    }

    private static boolean isDigit(int v) {
        return v >= 0 && v <= 9;
    }

    private static boolean isSlot(int slot) {
        return slot == 0 || slot == 1;
    }

    private static boolean isSetting(int what, int v) {
        return what >= 0 && what < SETTING_COUNT && v >= lowestValue(what) && v <= 9;
    }

    private static int lowestValue(int setting) {
        return setting == SIGHT ? 1 : 0;
    }

    private static boolean contains(long cells, int cell) {
        return (cells >>> cell & 1L) != 0L;
    }

    private static long combine(int way, long before, long next) {
        switch (way) {
            case 0: return before | next;
            case 1: return before & next;
            case 2: return before ^ next;
            default: return before & ~next;
        }
    }

    private static int lowestTerms(int numerator, int denominator, boolean upper) {
        int divisor = denominator;
        int rest = numerator;
        for (int i = 0; i < 64 && rest != 0; i++) {
            int next = divisor % rest;
            divisor = rest;
            rest = next;
        }
        if (divisor == 0) {
            return 0;
        }
        return (upper ? numerator : denominator) / divisor;
    }

    /** The grid with its towers and settings: what is saved, and what events are tried on. */
    private static final class Land {
        int columns;
        int rows;
        int towers;
        final int[] heights = new int[CELL_LIMIT];
        final int[] towerCells = new int[TOWER_LIMIT];
        final int[] towerRises = new int[TOWER_LIMIT];
        final int[] settings = new int[SETTING_COUNT];

        Land() {
            startAnew(2, 2);
        }

        void startAnew(int newColumns, int newRows) {
            columns = newColumns;
            rows = newRows;
            towers = 0;
            Arrays.fill(heights, 0);
            settings[EYE] = 1;
            settings[MARK] = 0;
            settings[BEND] = 0;
            settings[SIGHT] = 9;
        }

        void copyFrom(Land other) {
            columns = other.columns;
            rows = other.rows;
            towers = other.towers;
            System.arraycopy(other.heights, 0, heights, 0, CELL_LIMIT);
            System.arraycopy(other.towerCells, 0, towerCells, 0, TOWER_LIMIT);
            System.arraycopy(other.towerRises, 0, towerRises, 0, TOWER_LIMIT);
            System.arraycopy(other.settings, 0, settings, 0, SETTING_COUNT);
        }

        int cellCount() {
            return columns * rows;
        }

        boolean hasCell(int cell) {
            return cell >= 0 && cell < columns * rows;
        }

        boolean hasTower(int tower) {
            return tower >= 0 && tower < towers && tower < TOWER_LIMIT;
        }

        boolean isInside(int column, int row) {
            return column >= 0 && column < columns && row >= 0 && row < rows;
        }

        int columnOf(int cell) {
            return columns == 0 ? 0 : cell % columns;
        }

        int rowOf(int cell) {
            return columns == 0 ? 0 : cell / columns;
        }

        int heightOf(int cell) {
            return cell >= 0 && cell < CELL_LIMIT ? heights[cell] : 0;
        }

        boolean putHeight(int cell, int height) {
            if (!hasCell(cell) || cell >= CELL_LIMIT) {
                return false;
            }
            heights[cell] = height;
            return true;
        }

        /** Puts a tower in as number at; those from there on move up by one. */
        boolean putTower(int at, int cell, int rise) {
            if (!hasCell(cell) || towers >= TOWER_LIMIT || at < 0 || at > towers) {
                return false;
            }
            for (int t = towers; t > at; t--) {
                towerCells[t] = towerCells[t - 1];
                towerRises[t] = towerRises[t - 1];
            }
            towerCells[at] = cell;
            towerRises[at] = rise;
            towers++;
            return true;
        }

        boolean dropTower(int tower) {
            if (!hasTower(tower)) {
                return false;
            }
            for (int t = tower + 1; t < towers && t < TOWER_LIMIT; t++) {
                towerCells[t - 1] = towerCells[t];
                towerRises[t - 1] = towerRises[t];
            }
            towers--;
            return true;
        }

        boolean putSetting(int what, int v) {
            if (!isSetting(what, v)) {
                return false;
            }
            settings[what] = v;
            return true;
        }

        int distance(int from, int to) {
            int across = Math.abs(columnOf(from) - columnOf(to));
            int down = Math.abs(rowOf(from) - rowOf(to));
            return Math.max(across, down);
        }

        /**
         * The cell at a step of a line of n steps. A point in the middle between two cells has both at its step:
         * lean 0 takes the one with the higher number in its column or row, lean 1 the other; else both leans agree.
         */
        int cellAtStep(int from, int to, int n, int step, int lean) {
            if (n < 1 || columns < 1) {
                return from;
            }
            int left = n - step;
            int column = (2 * (from % columns * left + to % columns * step) + n - lean) / (2 * n);
            int row = (2 * (from / columns * left + to / columns * step) + n - lean) / (2 * n);
            return row * columns + column;
        }

        /** By how much the higher one of the cells at a step exceeds the line. */
        int excess(int from, int rise, int to, int n, int step) {
            int one = heightOf(cellAtStep(from, to, n, step, 0));
            int other = heightOf(cellAtStep(from, to, n, step, 1));
            int left = n - step;
            int start = heightOf(from) + rise;
            int end = heightOf(to) + settings[MARK];
            return 10 * n * Math.max(one, other) + n * settings[BEND] * step * left
                    - 10 * (start * left + end * step);
        }

        boolean canSee(int from, int rise, int to) {
            int n = distance(from, to);
            if (n > settings[SIGHT]) {
                return false;
            }
            for (int step = 1; step < n; step++) {
                if (excess(from, rise, to, n, step) > 0) {
                    return false;
                }
            }
            return true;
        }

        int firstBlock(int from, int rise, int to) {
            int n = distance(from, to);
            for (int step = 1; step < n; step++) {
                if (excess(from, rise, to, n, step) > 0) {
                    return step;
                }
            }
            return NONE;
        }

        /** For two cells with at least one step between them. */
        int greatestExcess(int from, int rise, int to) {
            int n = distance(from, to);
            int greatest = excess(from, rise, to, n, 1);
            for (int step = 2; step < n; step++) {
                greatest = Math.max(greatest, excess(from, rise, to, n, step));
            }
            return greatest;
        }

        int neededRise(int from, int to) {
            for (int rise = 0; rise <= RISE_LIMIT; rise++) {
                if (canSee(from, rise, to)) {
                    return rise;
                }
            }
            return NONE;
        }

        long viewFrom(int from, int rise) {
            long seen = 0L;
            for (int c = 0; c < columns * rows; c++) {
                if (canSee(from, rise, c)) {
                    seen |= 1L << c;
                }
            }
            return seen;
        }

        long towerView(int tower) {
            return hasTower(tower) ? viewFrom(towerCells[tower], towerRises[tower]) : 0L;
        }

        /** The cells that a tower sees and no other one. */
        long seenAlone(int tower) {
            long alone = towerView(tower);
            for (int t = 0; t < towers && t < TOWER_LIMIT; t++) {
                if (t != tower) {
                    alone &= ~viewFrom(towerCells[t], towerRises[t]);
                }
            }
            return alone;
        }

        long hiddenSet() {
            long hidden = (1L << columns * rows) - 1L;
            for (int t = 0; t < towers && t < TOWER_LIMIT; t++) {
                hidden &= ~viewFrom(towerCells[t], towerRises[t]);
            }
            return hidden;
        }

        int towersOn(int cell) {
            int set = 0;
            for (int t = 0; t < towers && t < TOWER_LIMIT; t++) {
                if (towerCells[t] == cell) {
                    set |= 1 << t;
                }
            }
            return set;
        }

        int watchersOf(int cell) {
            int count = 0;
            for (int t = 0; t < towers && t < TOWER_LIMIT; t++) {
                if (canSee(towerCells[t], towerRises[t], cell)) {
                    count++;
                }
            }
            return count;
        }

        /** The region of the lowest cell of a set that holds regions as a whole. */
        long lowestRegion(long cells) {
            long firstColumn = 0L;
            for (int r = 0; r < rows; r++) {
                firstColumn |= 1L << r * columns;
            }
            long lastColumn = firstColumn << columns - 1;
            long region = cells & -cells;
            // A path in the grid has fewer steps than the grid has cells.
            for (int i = 0; i < CELL_LIMIT; i++) {
                long east = (region & ~lastColumn) << 1;
                long west = (region & ~firstColumn) >>> 1;
                region |= (east | west | region << columns | region >>> columns) & cells;
            }
            return region;
        }

        int regionCount(long hidden) {
            long rest = hidden;
            int count = 0;
            while (rest != 0L && count < CELL_LIMIT) {
                rest &= ~lowestRegion(rest);
                count++;
            }
            return count;
        }

        /** The cells of a region, or none if there is no such region. */
        long regionNumbered(int number, long hidden) {
            long rest = hidden;
            for (int i = 0; i < number && i < CELL_LIMIT; i++) {
                rest &= ~lowestRegion(rest);
            }
            return lowestRegion(rest);
        }

        int regionOf(int cell, long hidden) {
            long rest = hidden;
            for (int i = 0; i < CELL_LIMIT && rest != 0L; i++) {
                long region = lowestRegion(rest);
                if (contains(region, cell)) {
                    return i;
                }
                rest &= ~region;
            }
            return NONE;
        }
    }

    /** The text that is written, and its reading as a map. */
    private static final class MapText {
        final char[] letters = new char[TEXT_LIMIT];
        int length;
        /** How far the latest reading came; where it failed, the error position. */
        int position;
        /** Bit k tells whether the latest reading met setting k. */
        int givenSettings;

        boolean append(char letter) {
            if (length < 0 || length >= TEXT_LIMIT) {
                return false;
            }
            letters[length] = letter;
            length++;
            return true;
        }

        boolean readInto(Land into) {
            position = 0;
            givenSettings = 0;
            if (nextLetter() != 'G') {
                return false;
            }
            position++;
            int columns = readDigit(2, 6);
            int rows = columns < 0 ? -1 : readDigit(2, 6);
            if (rows < 0) {
                return false;
            }
            into.startAnew(columns, rows);
            return readHeights(into) && readParts(into);
        }

        /** The letter at the position, or -1 behind the text's end. */
        private int nextLetter() {
            return position >= 0 && position < length && position < TEXT_LIMIT ? letters[position] : -1;
        }

        /** Reads a digit of a range; if there is none, answers -1 and stays before it. */
        private int readDigit(int low, int high) {
            int digit = nextLetter() - '0';
            if (digit < low || digit > high) {
                return -1;
            }
            position++;
            return digit;
        }

        private boolean readHeights(Land into) {
            for (int c = 0; c < into.cellCount(); c++) {
                int height = readDigit(0, 9);
                if (height < 0) {
                    return false;
                }
                into.putHeight(c, height);
            }
            return true;
        }

        private boolean readParts(Land into) {
            for (int i = 0; i < TEXT_LIMIT && position < length; i++) {
                boolean read = nextLetter() == 't' ? readTower(into) : readSetting(into);
                if (!read) {
                    return false;
                }
            }
            return true;
        }

        private boolean readTower(Land into) {
            if (into.towers >= TOWER_LIMIT) {
                return false;
            }
            position++;
            int highest = into.cellCount() - 1;
            int tens = readDigit(0, highest / 10);
            int units = tens < 0 ? -1 : readDigit(0, Math.min(9, highest - 10 * tens));
            int rise = units < 0 ? -1 : readDigit(0, 9);
            return rise >= 0 && into.putTower(into.towers, 10 * tens + units, rise);
        }

        private boolean readSetting(Land into) {
            int letter = nextLetter();
            int what = letter < 0 ? -1 : SETTING_LETTERS.indexOf((char) letter);
            if (what < 0 || (givenSettings >> what & 1) != 0) {
                return false;
            }
            position++;
            int v = readDigit(lowestValue(what), 9);
            givenSettings |= 1 << what;
            return v >= 0 && into.putSetting(what, v);
        }
    }

    /** The latest changes, the oldest one first, each with what was before it. */
    private static final class Journal {
        final int[] kinds = new int[CHANGE_LIMIT];
        final int[] places = new int[CHANGE_LIMIT];
        final int[] values = new int[CHANGE_LIMIT];
        final int[] rises = new int[CHANGE_LIMIT];
        int count;

        void note(int kind, int place, int value, int rise) {
            if (count >= CHANGE_LIMIT) {
                forgetOldest();
            }
            if (count < 0 || count >= CHANGE_LIMIT) {
                return;
            }
            kinds[count] = kind;
            places[count] = place;
            values[count] = value;
            rises[count] = rise;
            count++;
        }

        private void forgetOldest() {
            for (int i = 1; i < CHANGE_LIMIT; i++) {
                kinds[i - 1] = kinds[i];
                places[i - 1] = places[i];
                values[i - 1] = values[i];
                rises[i - 1] = rises[i];
            }
            count = CHANGE_LIMIT - 1;
        }

        void takeBack(Land land) {
            if (count < 1 || count > CHANGE_LIMIT) {
                return;
            }
            count--;
            int place = places[count];
            int value = values[count];
            switch (kinds[count]) {
                case RAISED: land.putHeight(place, value); break;
                case BUILT: land.dropTower(place); break;
                case RAZED: land.putTower(place, value, rises[count]); break;
                default: land.putSetting(place, value); break;
            }
        }
    }

    /** What was seen, or not, from the unknown cell. */
    private static final class Observations {
        final int[] cells = new int[OBSERVATION_LIMIT];
        final boolean[] visible = new boolean[OBSERVATION_LIMIT];
        int count;

        boolean add(int cell, boolean was) {
            if (count < 0 || count >= OBSERVATION_LIMIT) {
                return false;
            }
            cells[count] = cell;
            visible[count] = was;
            count++;
            return true;
        }

        boolean agreeFrom(int from, Land land) {
            int eye = land.settings[EYE];
            for (int i = 0; i < count && i < OBSERVATION_LIMIT; i++) {
                // Another map may have been read since: then the observed cell can be gone.
                boolean seen = land.hasCell(cells[i]) && land.canSee(from, eye, cells[i]);
                if (seen != visible[i]) {
                    return false;
                }
            }
            return true;
        }
    }
}
