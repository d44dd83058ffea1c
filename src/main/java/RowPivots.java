import java.util.Arrays;

/**
 * Linear systems solved exactly. All calls of a run share one room, so every working row is made
 * once and used again; after the constructor only images and undo rows are made, each one once.
 */
public final class RowPivots {
    public static final int NONE = -1;
    public static final int UNKNOWN = -2000000000;

    private static final int MOST = 6;
    private static final int WIDTH = MOST + 1;
    private static final int CELLS = MOST * WIDTH;
    private static final int BY_COLUMN = 0;
    private static final int BY_WEIGHT = 1;
    private static final int RULES = 3;
    private static final int UNDOS = 20;
    private static final int TAPE_BYTES = 400;
    private static final int FED_BYTES = 20;
    private static final int IMAGES = 3;
    private static final long LONGEST = 1000000000L;
    private static final int TOLD_UPPER = 999;
    private static final int TOLD_LOWER = 99;

    private static final int NO_SUCH = 1;
    private static final int CHANGES_NOTHING = 2;
    private static final int WOULD_BE_LONG = 3;
    private static final int LONG_ENTRY = 4;

    private static final int FAULT_SIGN = 1;
    private static final int FAULT_NUMBER = 2;
    private static final int FAULT_REFUSED = 3;

    private static final int WORD_SIZE = 1;
    private static final int WORD_ROW = 2;
    private static final int WORD_SET = 3;
    private static final int WORD_SWAP = 4;
    private static final int WORD_SCALE = 5;
    private static final int WORD_ADD = 6;
    private static final int WORD_REDUCE = 7;

    private final State now;
    private final State[] images;
    private final Past past;
    private final Acts acts;
    private final Sweep sweep;
    private final Values values;
    private final Reader reader;
    private final Grid told;
    private final Grid trial;
    private final Ratio ratio;

    public RowPivots() {
        now = new State();
        images = new State[IMAGES];
        past = new Past();
        acts = new Acts();
        sweep = new Sweep();
        values = new Values();
        reader = new Reader();
        told = new Grid();
        trial = new Grid();
        ratio = new Ratio();
    }

    // ---- the tape

    public int feed(int a, int b, int c, int d, int e) {
        Tape tape = now.tape;
        if (tape.length + FED_BYTES > TAPE_BYTES) {
            return NONE;
        }
        tape.append(a);
        tape.append(b);
        tape.append(c);
        tape.append(d);
        tape.append(e);
        return tape.length;
    }

    public int end(int n) {
        if (n < 0 || n > now.tape.length) {
            return NONE;
        }
        now.tape.length = n;
        return n;
    }

    public int text() {
        int lines = 0;
        reader.open(now.tape);
        boolean well = reader.readSize();
        if (well) {
            told.clear(reader.first, reader.second);
        }
        while (well && lines < TAPE_BYTES && !reader.isAtEnd()) {
            well = reader.readLine(told.rows, told.columns) && reader.readStop() && carryOut();
            lines++;
        }
        now.tape.length = 0;
        now.fault = reader.fault;
        now.faultPlace = reader.faultPlace;
        if (!well) {
            return NONE;
        }
        now.matrix.copy(told);
        past.forget();
        return lines;
    }

    public int fault(int what) {
        if (what == 0) {
            return now.fault;
        }
        return what == 1 ? now.faultPlace : NONE;
    }

    /** Does the LINE just read; false (with its FAULT) if it is an ACT that is REFUSED. */
    private boolean carryOut() {
        int upper = reader.upperRead(0);
        int lower = reader.lowerRead(0);
        int refusal;
        switch (reader.word) {
            case WORD_ROW:
                return tellRead(0, told.columns);
            case WORD_SET:
                return tellRead(reader.second, reader.second);
            case WORD_SWAP:
                refusal = acts.exchange(told, reader.first, reader.second);
                break;
            case WORD_SCALE:
                refusal = acts.stretch(told, reader.first, upper, lower);
                break;
            case WORD_ADD:
                refusal = acts.addRow(told, reader.first, reader.second, upper, lower);
                break;
            default:
                sweep.run(told, reader.first);
                refusal = acts.takeSwept(told, sweep);
                break;
        }
        if (refusal != 0) {
            return reader.refuse();
        }
        told.copy(acts.next);
        return true;
    }

    /** Tells the ENTRIES of a ROW from one column to another, both counted; never REFUSED. */
    private boolean tellRead(int from, int to) {
        for (int column = from; column <= to && column < WIDTH; column++) {
            ratio.start(reader.upperRead(column - from), reader.lowerRead(column - from));
            told.put(reader.first, column, ratio);
        }
        return true;
    }

    // ---- acts

    public int set(int row, int column, int upper, int lower) {
        return conclude(acts.tell(now.matrix, row, column, upper, lower));
    }

    public int swap(int row, int other) {
        return conclude(acts.exchange(now.matrix, row, other));
    }

    public int scale(int row, int upper, int lower) {
        return conclude(acts.stretch(now.matrix, row, upper, lower));
    }

    public int add(int row, int of, int upper, int lower) {
        return conclude(acts.addRow(now.matrix, row, of, upper, lower));
    }

    public int reduce(int rule) {
        if (!isRule(rule)) {
            return conclude(NO_SUCH);
        }
        sweep.run(now.matrix, rule);
        return conclude(acts.takeSwept(now.matrix, sweep));
    }

    public int why(int level, int what) {
        if (level < 0 || level > 1 || what < 0 || what > 2) {
            return NONE;
        }
        boolean isThere = level == 0 ? now.refusal != 0 : now.refusal == WOULD_BE_LONG;
        if (!isThere) {
            return 0;
        }
        if (what == 0) {
            return level == 0 ? now.refusal : LONG_ENTRY;
        }
        if (level == 0) {
            return NONE;
        }
        return what == 1 ? now.longRow : now.longColumn;
    }

    public int undo() {
        if (past.size == 0) {
            return NONE;
        }
        past.takeBack(now.matrix);
        return past.size;
    }

    /** Keeps what an ACT came to: WHY if it was REFUSED, else the MATRIX that it made. */
    private int conclude(int refusal) {
        now.refusal = refusal;
        now.longRow = refusal == WOULD_BE_LONG ? acts.longRow : NONE;
        now.longColumn = refusal == WOULD_BE_LONG ? acts.longColumn : NONE;
        if (refusal == 0) {
            past.keep(now.matrix);
            now.matrix.copy(acts.next);
        }
        return refusal;
    }

    // ---- what there is

    public int entry(int row, int column, boolean lower) {
        Grid matrix = now.matrix;
        if (!matrix.hasRow(row) || !matrix.hasColumnOrSide(column)) {
            return UNKNOWN;
        }
        return lower ? matrix.lowerAt(row, column) : matrix.upperAt(row, column);
    }

    public int count(int what) {
        switch (what) {
            case 0:
                return now.matrix.rows;
            case 1:
                return now.matrix.columns;
            case 2:
                return now.matrix.filled();
            case 3:
                return past.size;
            case 4:
                return now.tape.length;
            case 5:
                return leastFillingRule();
            default:
                return NONE;
        }
    }

    public int pattern(int k, boolean column) {
        Grid matrix = now.matrix;
        if (column) {
            return matrix.hasColumnOrSide(k) ? matrix.columnBits(k) : NONE;
        }
        return matrix.hasRow(k) ? matrix.rowBits(k) : NONE;
    }

    private int leastFillingRule() {
        int best = NONE;
        int least = 0;
        for (int rule = 0; rule < RULES; rule++) {
            sweep.run(now.matrix, rule);
            int fill = sweep.fillOfAll();
            if (!sweep.broken && (best == NONE || fill < least)) {
                best = rule;
                least = fill;
            }
        }
        return best;
    }

    // ---- eliminations

    public int pivot(int rule, int k, int what) {
        if (!isRule(rule)) {
            return UNKNOWN;
        }
        sweep.run(now.matrix, rule);
        if (sweep.broken) {
            return UNKNOWN;
        }
        if (k == NONE) {
            if (what == 0) {
                return sweep.rank;
            }
            return what == 1 ? sweep.fillOfAll() : UNKNOWN;
        }
        return sweep.pivotNumber(k, what);
    }

    public int kind() {
        sweep.run(now.matrix, BY_WEIGHT);
        return sweep.kindFound();
    }

    public int solution(int column, boolean lower) {
        return solved(now.matrix, column, lower);
    }

    public int free() {
        sweep.run(now.matrix, BY_WEIGHT);
        return sweep.broken ? UNKNOWN : sweep.freeBits();
    }

    public int zero(int free, int column, boolean lower) {
        if (!now.matrix.hasColumn(free) || !now.matrix.hasColumn(column)) {
            return UNKNOWN;
        }
        sweep.run(now.matrix, BY_WEIGHT);
        if (sweep.broken || (sweep.freeBits() >> free & 1) == 0) {
            return UNKNOWN;
        }
        values.solveNull(sweep, free);
        return values.answer(column, lower);
    }

    public int determinant(boolean lower) {
        return determinantOf(now.matrix, false, lower);
    }

    public int inverse(int row, int column, boolean lower) {
        Grid matrix = now.matrix;
        if (!matrix.isSquare() || !matrix.hasRow(row) || !matrix.hasColumn(column)) {
            return UNKNOWN;
        }
        trial.copy(matrix);
        trial.clearSides();
        ratio.start(1, 1);
        trial.put(column, trial.columns, ratio);
        sweep.run(trial, BY_WEIGHT);
        if (sweep.broken || sweep.rank < trial.rows) {
            return UNKNOWN;
        }
        values.solveSides(sweep);
        return values.answer(row, lower);
    }

    public int minor(int row, int column, boolean lower) {
        Grid matrix = now.matrix;
        if (!matrix.isSquare() || !matrix.hasRow(row) || !matrix.hasColumn(column)) {
            return UNKNOWN;
        }
        if (matrix.rows == 1) {
            return 1;
        }
        trial.copyWithout(matrix, row, column);
        return determinantOf(trial, (row + column) % 2 != 0, lower);
    }

    public int cramer(int column, boolean lower) {
        Grid matrix = now.matrix;
        if (!matrix.isSquare() || !matrix.hasColumn(column)) {
            return UNKNOWN;
        }
        trial.copy(matrix);
        for (int row = 0; row < trial.rows; row++) {
            ratio.load(matrix, row, matrix.columns);
            trial.put(row, column, ratio);
        }
        trial.clearSides();
        return determinantOf(trial, false, lower);
    }

    public int would(int side, int upper, int lower, int column, boolean low) {
        Grid matrix = now.matrix;
        if (!matrix.hasColumnOrSide(side) || !isTold(upper, lower)) {
            return UNKNOWN;
        }
        trial.copy(matrix);
        for (int row = 0; row < trial.rows; row++) {
            ratio.load(matrix, row, side);
            ratio.times(upper, lower);
            if (ratio.isLong) {
                return UNKNOWN;
            }
            trial.put(row, trial.columns, ratio);
        }
        return solved(trial, column, low);
    }

    public int ranked(int row, int column, int upper, int lower) {
        Grid matrix = now.matrix;
        if (!matrix.hasRow(row) || !matrix.hasColumn(column) || !isTold(upper, lower)) {
            return UNKNOWN;
        }
        trial.copy(matrix);
        ratio.start(upper, lower);
        trial.put(row, column, ratio);
        sweep.run(trial, BY_WEIGHT);
        return sweep.broken ? UNKNOWN : sweep.rank;
    }

    public int residue(int row, boolean lower) {
        Grid matrix = now.matrix;
        if (!matrix.hasRow(row)) {
            return UNKNOWN;
        }
        sweep.run(matrix, BY_WEIGHT);
        if (!sweep.canBeSolved()) {
            return UNKNOWN;
        }
        values.solveSides(sweep);
        values.residueOf(matrix, row, ratio);
        return ratio.answer(lower);
    }

    public boolean image(int k) {
        if (k < 0 || k >= images.length) {
            return false;
        }
        State kept = images[k];
        if (kept == null) {
            kept = new State();
            images[k] = kept;
        }
        kept.copy(now);
        return true;
    }

    public boolean again(int k) {
        if (k < 0 || k >= images.length) {
            return false;
        }
        State kept = images[k];
        if (kept == null) {
            return false;
        }
        now.copy(kept);
        past.forget();
        return true;
    }

    private int solved(Grid grid, int column, boolean lower) {
        if (!grid.hasColumn(column)) {
            return UNKNOWN;
        }
        sweep.run(grid, BY_WEIGHT);
        if (!sweep.canBeSolved()) {
            return UNKNOWN;
        }
        values.solveSides(sweep);
        return values.answer(column, lower);
    }

    private int determinantOf(Grid grid, boolean turned, boolean lower) {
        if (!grid.isSquare()) {
            return UNKNOWN;
        }
        sweep.run(grid, BY_WEIGHT);
        if (sweep.broken) {
            return UNKNOWN;
        }
        sweep.multiplyPivots(ratio);
        if (turned) {
            ratio.negate();
        }
        return ratio.answer(lower);
    }

    private static boolean isRule(int rule) {
        return rule >= 0 && rule < RULES;
    }

    private static boolean isTold(int upper, int lower) {
        return upper >= -TOLD_UPPER && upper <= TOLD_UPPER && lower >= 1 && lower <= TOLD_LOWER;
    }

    /**
     * A fraction in lowest terms that is worked on in place. Once it has been LONG it stays so
     * until it starts anew, so a whole sum can be done before it is asked; as neither number of
     * what it works with is above LONGEST, no step leaves the range of a long.
     */
    private static final class Ratio {
        private static final int MOST_STEPS = 200;

        long upper;
        long lower = 1;
        boolean isLong;

        void start(long newUpper, long newLower) {
            isLong = false;
            settle(newUpper, newLower);
        }

        void load(Grid grid, int row, int column) {
            isLong = false;
            upper = grid.upperAt(row, column);
            lower = grid.lowerAt(row, column);
        }

        void plus(long otherUpper, long otherLower) {
            settle(upper * otherLower + otherUpper * lower, lower * otherLower);
        }

        void minus(long otherUpper, long otherLower) {
            settle(upper * otherLower - otherUpper * lower, lower * otherLower);
        }

        void times(long otherUpper, long otherLower) {
            settle(upper * otherUpper, lower * otherLower);
        }

        void over(long otherUpper, long otherLower) {
            settle(upper * otherLower, lower * otherUpper);
        }

        void negate() {
            upper = -upper;
        }

        void spoil() {
            isLong = true;
            upper = 0;
            lower = 1;
        }

        int answer(boolean wantsLower) {
            if (isLong) {
                return UNKNOWN;
            }
            return (int) (wantsLower ? lower : upper);
        }

        private void settle(long newUpper, long newLower) {
            if (isLong || newLower == 0) {
                spoil();
                return;
            }
            long shared = newUpper < 0 ? -newUpper : newUpper;
            long rest = newLower < 0 ? -newLower : newLower;
            for (int step = 0; step < MOST_STEPS && rest != 0; step++) {
                long next = shared % rest;
                shared = rest;
                rest = next;
            }
            if (newLower < 0) {
                shared = -shared;
            }
            if (shared == 0) {
                spoil();
                return;
            }
            upper = newUpper / shared;
            lower = newLower / shared;
            if (upper > LONGEST || upper < -LONGEST || lower > LONGEST) {
                spoil();
            }
        }
    }

    /** A MATRIX with its SIDE. No ENTRY is ever LONG, so ints hold them. */
    private static final class Grid {
        int rows = 2;
        int columns = 2;
        private final int[] upper = new int[CELLS];
        private final int[] lower = new int[CELLS];
        private final Ratio sum = new Ratio();

        Grid() {
            Arrays.fill(lower, 1);
        }

        void clear(int newRows, int newColumns) {
            rows = newRows;
            columns = newColumns;
            Arrays.fill(upper, 0);
            Arrays.fill(lower, 1);
        }

        void copy(Grid other) {
            rows = other.rows;
            columns = other.columns;
            System.arraycopy(other.upper, 0, upper, 0, CELLS);
            System.arraycopy(other.lower, 0, lower, 0, CELLS);
        }

        /** Takes over what a ROW and a COLUMN leave of another MATRIX; SIDES are 0. */
        void copyWithout(Grid other, int row, int column) {
            clear(other.rows - 1, other.columns - 1);
            for (int i = 0; i < rows; i++) {
                for (int j = 0; j < columns; j++) {
                    sum.load(other, i < row ? i : i + 1, j < column ? j : j + 1);
                    put(i, j, sum);
                }
            }
        }

        void clearSides() {
            sum.start(0, 1);
            for (int row = 0; row < rows; row++) {
                put(row, columns, sum);
            }
        }

        boolean hasRow(int row) {
            return row >= 0 && row < rows;
        }

        boolean hasColumn(int column) {
            return column >= 0 && column < columns;
        }

        boolean hasColumnOrSide(int column) {
            return column >= 0 && column <= columns;
        }

        boolean isSquare() {
            return rows == columns;
        }

        int upperAt(int row, int column) {
            int cell = row * WIDTH + column;
            return cell >= 0 && cell < CELLS ? upper[cell] : 0;
        }

        int lowerAt(int row, int column) {
            int cell = row * WIDTH + column;
            return cell >= 0 && cell < CELLS ? lower[cell] : 1;
        }

        void put(int row, int column, Ratio value) {
            int cell = row * WIDTH + column;
            if (cell >= 0 && cell < CELLS) {
                upper[cell] = (int) value.upper;
                lower[cell] = (int) value.lower;
            }
        }

        boolean isAt(int row, int column, Ratio value) {
            return upperAt(row, column) == value.upper && lowerAt(row, column) == value.lower;
        }

        int rowBits(int row) {
            int bits = 0;
            for (int column = 0; column <= columns; column++) {
                if (upperAt(row, column) != 0) {
                    bits |= 1 << column;
                }
            }
            return bits;
        }

        int columnBits(int column) {
            int bits = 0;
            for (int row = 0; row < rows; row++) {
                if (upperAt(row, column) != 0) {
                    bits |= 1 << row;
                }
            }
            return bits;
        }

        /** The bits of all COLUMNS, without the SIDE. */
        int allColumns() {
            return (1 << columns) - 1;
        }

        int filled() {
            int found = 0;
            for (int row = 0; row < rows; row++) {
                found += Integer.bitCount(rowBits(row) & allColumns());
            }
            return found;
        }

        boolean isSame(Grid other) {
            for (int row = 0; row < rows; row++) {
                for (int column = 0; column <= columns; column++) {
                    sum.load(other, row, column);
                    if (!isAt(row, column, sum)) {
                        return false;
                    }
                }
            }
            return true;
        }

        /** Adds to a ROW a factor times another: the first column where that is LONG, or NONE. */
        int addTimes(int row, int of, long factorUpper, long factorLower) {
            for (int column = 0; column <= columns; column++) {
                sum.load(this, of, column);
                sum.times(factorUpper, factorLower);
                sum.plus(upperAt(row, column), lowerAt(row, column));
                if (sum.isLong) {
                    return column;
                }
                put(row, column, sum);
            }
            return NONE;
        }
    }

    /** ELIMINATION by a RULE, over a copy, and what can be read off it. */
    private static final class Sweep {
        final Grid grid = new Grid();
        int rank;
        boolean broken;
        int brokenRow;
        int brokenColumn;
        private final int[] pivotRows = new int[MOST];
        private final int[] pivotColumns = new int[MOST];
        private final int[] fills = new int[MOST];
        private final int[] weights = new int[MOST];
        private final Ratio factor = new Ratio();
        private int liveRows;
        private int liveColumns;
        private int bestRow;
        private int bestColumn;

        void run(Grid from, int rule) {
            grid.copy(from);
            rank = 0;
            broken = false;
            liveRows = (1 << grid.rows) - 1;
            liveColumns = grid.allColumns();
            for (int k = 0; k < MOST && !broken; k++) {
                choose(rule);
                if (bestRow == NONE) {
                    break;
                }
                pivotRows[k] = bestRow;
                pivotColumns[k] = bestColumn;
                weights[k] = weightOf(bestRow, bestColumn);
                fills[k] = 0;
                for (int row = 0; row < grid.rows && !broken; row++) {
                    if (row != bestRow && isLive(row, bestColumn)) {
                        fills[k] += clearRow(row);
                    }
                }
                liveRows &= ~(1 << bestRow);
                liveColumns &= ~(1 << bestColumn);
                rank = k + 1;
            }
        }

        /** Whether an ENTRY can be a PIVOT, and so must go when it stands under another one. */
        private boolean isLive(int row, int column) {
            return (liveRows >> row & 1) == 1 && (liveColumns >> column & 1) == 1
                && grid.upperAt(row, column) != 0;
        }

        private void choose(int rule) {
            bestRow = NONE;
            bestColumn = NONE;
            for (int row = 0; row < grid.rows; row++) {
                for (int column = 0; column < grid.columns; column++) {
                    if (isLive(row, column) && (bestRow == NONE || isBetter(rule, row, column))) {
                        bestRow = row;
                        bestColumn = column;
                    }
                }
            }
        }

        /** ROWS and COLUMNS are gone through rising, so what is merely as good stays behind. */
        private boolean isBetter(int rule, int row, int column) {
            if (rule == BY_COLUMN) {
                return column < bestColumn;
            }
            if (rule == BY_WEIGHT) {
                return weightOf(row, column) < weightOf(bestRow, bestColumn);
            }
            long size = Math.abs((long) grid.upperAt(row, column));
            long best = Math.abs((long) grid.upperAt(bestRow, bestColumn));
            return size * grid.lowerAt(bestRow, bestColumn) > best * grid.lowerAt(row, column);
        }

        private int weightOf(int row, int column) {
            int inRow = Integer.bitCount(grid.rowBits(row) & liveColumns);
            int inColumn = Integer.bitCount(grid.columnBits(column) & liveRows);
            return (inRow - 1) * (inColumn - 1);
        }

        /** Makes a ROW 0 in the PIVOT's COLUMN: how many ENTRIES that fills. */
        private int clearRow(int row) {
            int before = grid.rowBits(row);
            factor.load(grid, row, bestColumn);
            factor.over(grid.upperAt(bestRow, bestColumn), grid.lowerAt(bestRow, bestColumn));
            factor.negate();
            int longAt = bestColumn;
            if (!factor.isLong) {
                longAt = grid.addTimes(row, bestRow, factor.upper, factor.lower);
            }
            if (longAt != NONE) {
                broken = true;
                brokenRow = row;
                brokenColumn = longAt;
            }
            return Integer.bitCount(grid.rowBits(row) & ~before & grid.allColumns());
        }

        int rowOf(int k) {
            return k >= 0 && k < rank && k < MOST ? pivotRows[k] : NONE;
        }

        int columnOf(int k) {
            return k >= 0 && k < rank && k < MOST ? pivotColumns[k] : NONE;
        }

        int pivotNumber(int k, int what) {
            if (k < 0 || k >= rank || k >= MOST) {
                return UNKNOWN;
            }
            switch (what) {
                case 0:
                    return pivotRows[k];
                case 1:
                    return pivotColumns[k];
                case 2:
                    return fills[k];
                case 3:
                    return weights[k];
                case 4:
                    return grid.upperAt(pivotRows[k], pivotColumns[k]);
                case 5:
                    return grid.lowerAt(pivotRows[k], pivotColumns[k]);
                default:
                    return UNKNOWN;
            }
        }

        int fillOfAll() {
            int all = 0;
            for (int k = 0; k < rank && k < MOST; k++) {
                all += fills[k];
            }
            return all;
        }

        /** What is LIVE still at the end had no PIVOT. */
        int freeBits() {
            return liveColumns;
        }

        int kindFound() {
            if (broken) {
                return UNKNOWN;
            }
            if ((grid.columnBits(grid.columns) & liveRows) != 0) {
                return 0;
            }
            return liveColumns == 0 ? 1 : 2;
        }

        boolean canBeSolved() {
            int found = kindFound();
            return found == 1 || found == 2;
        }

        /** The DETERMINANT of what was square. */
        void multiplyPivots(Ratio product) {
            if (rank < grid.rows) {
                product.start(0, 1);
                return;
            }
            product.start(1, 1);
            boolean odd = false;
            for (int k = 0; k < rank; k++) {
                int row = rowOf(k);
                int column = columnOf(k);
                product.times(grid.upperAt(row, column), grid.lowerAt(row, column));
                for (int earlier = 0; earlier < k; earlier++) {
                    if ((rowOf(earlier) < row) != (columnOf(earlier) < column)) {
                        odd = !odd;
                    }
                }
            }
            if (odd) {
                product.negate();
            }
        }
    }

    /**
     * What each COLUMN has by a SOLUTION or a NULL. Once a step on the way to it is LONG it is
     * UNKNOWN, and so is every other whose ROW has an ENTRY there that is not 0.
     */
    private static final class Values {
        private final int[] upper = new int[MOST];
        private final int[] lower = new int[MOST];
        private int known;
        private final Ratio rest = new Ratio();
        private final Ratio part = new Ratio();

        void solveSides(Sweep sweep) {
            clear();
            substitute(sweep, true);
        }

        void solveNull(Sweep sweep, int free) {
            clear();
            rest.start(1, 1);
            keep(free);
            substitute(sweep, false);
        }

        int answer(int column, boolean wantsLower) {
            if (column < 0 || column >= MOST || (known >> column & 1) == 0) {
                return UNKNOWN;
            }
            return wantsLower ? lower[column] : upper[column];
        }

        void residueOf(Grid grid, int row, Ratio sum) {
            sum.start(0, 1);
            for (int column = 0; column < grid.columns; column++) {
                multiply(grid, row, column);
                if (part.isLong) {
                    sum.spoil();
                }
                sum.plus(part.upper, part.lower);
            }
            sum.minus(grid.upperAt(row, grid.columns), grid.lowerAt(row, grid.columns));
        }

        private void clear() {
            Arrays.fill(upper, 0);
            Arrays.fill(lower, 1);
            known = (1 << MOST) - 1;
        }

        private void substitute(Sweep sweep, boolean withSides) {
            Grid grid = sweep.grid;
            for (int k = sweep.rank - 1; k >= 0; k--) {
                int row = sweep.rowOf(k);
                int own = sweep.columnOf(k);
                rest.start(0, 1);
                if (withSides) {
                    rest.load(grid, row, grid.columns);
                }
                for (int column = 0; column < grid.columns; column++) {
                    if (column != own) {
                        multiply(grid, row, column);
                        if (part.isLong) {
                            rest.spoil();
                        }
                        rest.minus(part.upper, part.lower);
                    }
                }
                rest.over(grid.upperAt(row, own), grid.lowerAt(row, own));
                keep(own);
            }
        }

        private void keep(int column) {
            if (column >= 0 && column < MOST) {
                upper[column] = (int) rest.upper;
                lower[column] = (int) rest.lower;
                known = rest.isLong ? known & ~(1 << column) : known | 1 << column;
            }
        }

        /** An ENTRY times what its COLUMN has; 0 brings 0 even where that is UNKNOWN, else LONG. */
        private void multiply(Grid grid, int row, int column) {
            part.load(grid, row, column);
            if (part.upper == 0) {
                return;
            }
            if (column < 0 || column >= MOST || (known >> column & 1) == 0) {
                part.spoil();
                return;
            }
            part.times(upper[column], lower[column]);
        }
    }

    /** Tries ACTS: answers why one is REFUSED, or 0 with the MATRIX that comes of it in next. */
    private static final class Acts {
        final Grid next = new Grid();
        int longRow;
        int longColumn;
        private final Ratio value = new Ratio();

        int tell(Grid from, int row, int column, int upper, int lower) {
            if (!from.hasRow(row) || !from.hasColumnOrSide(column) || !isTold(upper, lower)) {
                return NO_SUCH;
            }
            value.start(upper, lower);
            if (from.isAt(row, column, value)) {
                return CHANGES_NOTHING;
            }
            next.copy(from);
            next.put(row, column, value);
            return 0;
        }

        int exchange(Grid from, int row, int other) {
            if (!from.hasRow(row) || !from.hasRow(other)) {
                return NO_SUCH;
            }
            next.copy(from);
            for (int column = 0; column <= from.columns; column++) {
                value.load(from, row, column);
                next.put(other, column, value);
                value.load(from, other, column);
                next.put(row, column, value);
            }
            return next.isSame(from) ? CHANGES_NOTHING : 0;
        }

        int stretch(Grid from, int row, int upper, int lower) {
            if (!from.hasRow(row) || !isTold(upper, lower)) {
                return NO_SUCH;
            }
            if (upper == 0 || upper == lower || from.rowBits(row) == 0) {
                return CHANGES_NOTHING;
            }
            next.copy(from);
            for (int column = 0; column <= from.columns; column++) {
                value.load(from, row, column);
                value.times(upper, lower);
                if (value.isLong) {
                    return refuseLong(row, column);
                }
                next.put(row, column, value);
            }
            return 0;
        }

        int addRow(Grid from, int row, int of, int upper, int lower) {
            if (!from.hasRow(row) || !from.hasRow(of) || !isTold(upper, lower)) {
                return NO_SUCH;
            }
            if (row == of || upper == 0 || from.rowBits(of) == 0) {
                return CHANGES_NOTHING;
            }
            next.copy(from);
            value.start(upper, lower);
            int longAt = next.addTimes(row, of, value.upper, value.lower);
            return longAt == NONE ? 0 : refuseLong(row, longAt);
        }

        /** REDUCE, its ELIMINATION being done. */
        int takeSwept(Grid from, Sweep sweep) {
            if (sweep.broken) {
                return refuseLong(sweep.brokenRow, sweep.brokenColumn);
            }
            next.copy(sweep.grid);
            return next.isSame(from) ? CHANGES_NOTHING : 0;
        }

        private int refuseLong(int row, int column) {
            longRow = row;
            longColumn = column;
            return WOULD_BE_LONG;
        }
    }

    /** The MATRICES before the latest ACTS, in a ring: the eldest gives way to a new one. */
    private static final class Past {
        int size;
        private final Grid[] kept = new Grid[UNDOS];
        private int top;

        void keep(Grid matrix) {
            if (top < 0 || top >= UNDOS) {
                return;
            }
            Grid place = kept[top];
            if (place == null) {
                place = new Grid();
                kept[top] = place;
            }
            place.copy(matrix);
            top = (top + 1) % UNDOS;
            size = Math.min(size + 1, UNDOS);
        }

        void takeBack(Grid matrix) {
            int last = (top + UNDOS - 1) % UNDOS;
            if (size == 0 || last < 0 || last >= UNDOS) {
                return;
            }
            Grid place = kept[last];
            if (place != null) {
                matrix.copy(place);
            }
            top = last;
            size--;
        }

        void forget() {
            size = 0;
            top = 0;
        }
    }

    /** All that an image keeps. */
    private static final class State {
        final Grid matrix = new Grid();
        final Tape tape = new Tape();
        int fault;
        int faultPlace = NONE;
        int refusal;
        int longRow = NONE;
        int longColumn = NONE;

        void copy(State other) {
            matrix.copy(other.matrix);
            tape.copy(other.tape);
            fault = other.fault;
            faultPlace = other.faultPlace;
            refusal = other.refusal;
            longRow = other.longRow;
            longColumn = other.longColumn;
        }
    }

    private static final class Tape {
        int length;
        private final byte[] bytes = new byte[TAPE_BYTES];

        /** Puts four bytes behind, the highest first. */
        void append(int number) {
            for (int shift = 24; shift >= 0 && length < TAPE_BYTES && length >= 0; shift -= 8) {
                bytes[length] = (byte) (number >> shift);
                length++;
            }
        }

        void copy(Tape other) {
            length = other.length;
            System.arraycopy(other.bytes, 0, bytes, 0, TAPE_BYTES);
        }

        /** The byte at a place, or NONE behind the end. */
        int byteAt(int place) {
            return place >= 0 && place < length && place < TAPE_BYTES ? bytes[place] & 255 : NONE;
        }
    }

    /** Goes over its copy of a tape token by token; the token ahead stands in its fields. */
    private static final class Scanner {
        static final int END = 0;
        static final int WORD = 1;
        static final int NUMBER = 2;
        static final int SIGN = 3;
        static final int NO_TOKEN = 4;
        private static final int MOST_DIGITS = 3;

        int type;
        int place;
        int value;
        private final Tape tape = new Tape();
        private int next;

        void open(Tape source) {
            tape.copy(source);
            next = 0;
            advance();
        }

        boolean isSign(char sign) {
            return type == SIGN && value == sign;
        }

        void advance() {
            while (next < tape.length && isBlank(tape.byteAt(next))) {
                next++;
            }
            place = next;
            value = tape.byteAt(next);
            if (next >= tape.length) {
                type = END;
            } else if (isLetter(value)) {
                type = WORD;
                skipLetters();
            } else if (isDigit(value)) {
                takeDigits();
                type = next - place > MOST_DIGITS ? NO_TOKEN : NUMBER;
            } else {
                boolean isSign = value == '-' || value == '/' || value == ';';
                type = isSign ? SIGN : NO_TOKEN;
                next++;
            }
        }

        private void skipLetters() {
            while (next < tape.length && isLetter(tape.byteAt(next))) {
                next++;
            }
        }

        private void takeDigits() {
            value = 0;
            while (next < tape.length && isDigit(tape.byteAt(next))) {
                if (next - place < MOST_DIGITS) {
                    value = value * 10 + tape.byteAt(next) - '0';
                }
                next++;
            }
        }

        /** Which word the token is, 0 for one that no TEXT has. */
        int wordAhead() {
            if (isWord("size")) {
                return WORD_SIZE;
            }
            if (isWord("row")) {
                return WORD_ROW;
            }
            if (isWord("set")) {
                return WORD_SET;
            }
            if (isWord("swap")) {
                return WORD_SWAP;
            }
            if (isWord("scale")) {
                return WORD_SCALE;
            }
            if (isWord("add")) {
                return WORD_ADD;
            }
            return isWord("reduce") ? WORD_REDUCE : 0;
        }

        private boolean isWord(String word) {
            if (next - place != word.length()) {
                return false;
            }
            for (int i = 0; i < word.length(); i++) {
                if (tape.byteAt(place + i) != word.charAt(i)) {
                    return false;
                }
            }
            return true;
        }

        private static boolean isBlank(int sign) {
            return sign == ' ' || sign == '\n';
        }

        private static boolean isLetter(int sign) {
            return sign >= 'a' && sign <= 'z';
        }

        private static boolean isDigit(int sign) {
            return sign >= '0' && sign <= '9';
        }
    }

    /** Reads a TEXT LINE by LINE, keeping what the LINE tells and the first FAULT that it meets. */
    private static final class Reader {
        int fault;
        int faultPlace;
        int word;
        int first;
        int second;
        private final Scanner scanner = new Scanner();
        private final int[] uppers = new int[WIDTH];
        private final int[] lowers = new int[WIDTH];
        private int wordPlace;
        private int number;

        void open(Tape tape) {
            fault = 0;
            faultPlace = NONE;
            scanner.open(tape);
        }

        boolean isAtEnd() {
            return scanner.type == Scanner.END;
        }

        boolean readSize() {
            return takeWord() && (word == WORD_SIZE || fail(FAULT_SIGN, wordPlace))
                && takeFirst(1, MOST) && takeSecond(1, MOST) && readStop();
        }

        boolean readLine(int rows, int columns) {
            if (!takeWord()) {
                return false;
            }
            switch (word) {
                case WORD_ROW:
                    return takeFirst(0, rows - 1) && takeFractions(columns + 1);
                case WORD_SET:
                    return takeFirst(0, rows - 1) && takeSecond(0, columns) && takeFractions(1);
                case WORD_SWAP:
                    return takeFirst(0, rows - 1) && takeSecond(0, rows - 1);
                case WORD_SCALE:
                    return takeFirst(0, rows - 1) && takeFractions(1);
                case WORD_ADD:
                    return takeFirst(0, rows - 1) && takeSecond(0, rows - 1) && takeFractions(1);
                case WORD_REDUCE:
                    return takeFirst(0, RULES - 1);
                default:
                    return fail(FAULT_SIGN, wordPlace);
            }
        }

        boolean readStop() {
            if (!scanner.isSign(';')) {
                return fail(FAULT_SIGN, scanner.place);
            }
            scanner.advance();
            return true;
        }

        /** The FAULT of the LINE just read, whose ACT is REFUSED. */
        boolean refuse() {
            return fail(FAULT_REFUSED, wordPlace);
        }

        int upperRead(int k) {
            return k >= 0 && k < WIDTH ? uppers[k] : 0;
        }

        int lowerRead(int k) {
            return k >= 0 && k < WIDTH ? lowers[k] : 1;
        }

        private boolean fail(int kindOfFault, int place) {
            fault = kindOfFault;
            faultPlace = place;
            return false;
        }

        private boolean takeWord() {
            wordPlace = scanner.place;
            if (scanner.type != Scanner.WORD) {
                return fail(FAULT_SIGN, wordPlace);
            }
            word = scanner.wordAhead();
            scanner.advance();
            return true;
        }

        private boolean takeFirst(int least, int most) {
            boolean well = takeNumber(least, most);
            first = number;
            return well;
        }

        private boolean takeSecond(int least, int most) {
            boolean well = takeNumber(least, most);
            second = number;
            return well;
        }

        private boolean takeNumber(int least, int most) {
            if (scanner.type != Scanner.NUMBER) {
                return fail(FAULT_SIGN, scanner.place);
            }
            number = scanner.value;
            if (number < least || number > most) {
                return fail(FAULT_NUMBER, scanner.place);
            }
            scanner.advance();
            return true;
        }

        private boolean takeFractions(int howMany) {
            for (int k = 0; k < howMany && k < WIDTH; k++) {
                if (!takeFraction(k)) {
                    return false;
                }
            }
            return true;
        }

        private boolean takeFraction(int k) {
            boolean isBelowZero = scanner.isSign('-');
            if (isBelowZero) {
                scanner.advance();
            }
            if (k < 0 || k >= WIDTH || !takeNumber(0, TOLD_UPPER)) {
                return false;
            }
            uppers[k] = isBelowZero ? -number : number;
            lowers[k] = 1;
            if (scanner.isSign('/')) {
                scanner.advance();
                if (!takeNumber(1, TOLD_LOWER)) {
                    return false;
                }
                lowers[k] = number;
            }
            return true;
        }
    }
}
