/**
 * Rows of tests in which all mixes of few columns appear. The document's words in capitals are the words
 * used here in small letters.
 *
 * A row, a mix, a never and what is left to a row are all told by one int: four bits a column, one bit a
 * level, so that "has all of these cells" is one mask. A column without a bit is free.
 */
public final class MixCover {
    public static final int NONE = -1;

    private static final int NOT_SO_MANY = -2;
    private static final int CANNOT_BE = -2;
    private static final int IS_SO = -2;
    private static final int MOST_COLUMNS = 8;
    private static final int MOST_LEVELS = 4;
    private static final int MOST_STRENGTH = 3;
    private static final int MOST_NEVERS = 12;
    private static final int MOST_MIXES = 1200;
    private static final int MOST_SETS = 56;
    private static final int MOST_ROWS = 64;
    private static final int MOST_BYTES = 200;
    private static final int MOST_ACTS = 8;
    private static final int SHELVES = 2;
    private static final int FREE_DIGIT = 9;
    /** Every bit set is no row, as no column has two levels at once. */
    private static final int NO_ROW = -1;
    private static final int UNTOLD = 0;
    private static final int PASSED = 1;
    private static final int FAILED = 2;

    private final Tape tape = new Tape();
    private final PlanReader reader = new PlanReader();
    private final State now = new State();
    private final Mixes mixes = new Mixes();
    private final RowMaker maker = new RowMaker();
    private final Placer placer = new Placer();
    private final Suspects suspects = new Suspects();
    private final State[] past = new State[MOST_ACTS];
    private int pastEnd;
    private int pastSize;
    private final State[] shelves = new State[SHELVES];

    public MixCover() {
        for (int i = 0; i < MOST_ACTS; i++) {
            past[i] = new State();
        }
        for (int i = 0; i < SHELVES; i++) {
            shelves[i] = new State();
        }
    }

    public int feed(int a, int b, int c, int d, int e) {
        if (tape.size + 20 > MOST_BYTES) {
            return NONE;
        }
        tape.put(a);
        tape.put(b);
        tape.put(c);
        tape.put(d);
        tape.put(e);
        return tape.size;
    }

    public int end(int n) {
        if (n < 0 || n > tape.size) {
            return NONE;
        }
        tape.size = n;
        return n;
    }

    public int plan() {
        int fault = reader.read(tape);
        tape.size = 0;
        if (fault != NONE) {
            return -2 - fault;
        }
        now.plan.copyFrom(reader.draft);
        now.rows.size = 0;
        pastSize = 0;
        rebuild();
        return mixes.size();
    }

    public int levels(int column) {
        return isColumn(column) ? now.plan.levels[column] : NONE;
    }

    public int mix(int mix, int what) {
        if (mix < 0 || mix >= mixCount() || what < 0 || what > 8) {
            return NONE;
        }
        if (what < 3) {
            return mixes.columnOf(mix, what);
        }
        if (what < 6) {
            return mixes.levelOf(mix, what - 3);
        }
        if (what == 6) {
            return mixes.sample[mix] != 0 ? 1 : 0;
        }
        return what == 7 ? mixes.had[mix] : now.rows.firstThatHas(mixes.bits[mix]);
    }

    public int add(int digits) {
        int row = rowBy(digits);
        if (row == NO_ROW || now.rows.size >= MOST_ROWS) {
            return NONE;
        }
        if (!now.plan.allows(row)) {
            return CANNOT_BE;
        }
        remember();
        append(row);
        return now.rows.size;
    }

    public int tell(int row, int column, int level) {
        if (!isRow(row) || !isColumn(column) || level < NONE || level >= now.plan.levels[column]) {
            return -4;
        }
        int before = now.rows.cells[row];
        int was = levelIn(before, column);
        if (was == level) {
            return -3;
        }
        int after = before & ~(15 << 4 * column);
        if (level != NONE) {
            after |= 1 << 4 * column + level;
        }
        if (!now.plan.allows(after)) {
            return CANNOT_BE;
        }
        remember();
        mixes.change(before, after);
        now.rows.cells[row] = after;
        return was;
    }

    public int cell(int row, int column) {
        return isRow(row) && isColumn(column) ? levelIn(now.rows.cells[row], column) : -2;
    }

    public int drop(int row) {
        if (!isRow(row)) {
            return NONE;
        }
        remember();
        takeAway(row);
        return now.rows.size;
    }

    public int open() {
        return hasPlan() ? mixes.openCount() : NONE;
    }

    public int openMix(int k) {
        return hasPlan() && k >= 0 ? mixes.openAt(k) : NONE;
    }

    public long hope(int digits) {
        int row = rowBy(digits);
        return row == NO_ROW ? NONE : maker.hopeOf(row, now.plan, mixes);
    }

    public int greed() {
        if (!hasPlan() || now.rows.size >= MOST_ROWS) {
            return NONE;
        }
        if (mixes.openCount() == 0) {
            return NOT_SO_MANY;
        }
        remember();
        append(maker.makeRow(now.plan, mixes));
        return mixes.gainOf(now.rows, now.rows.size - 1);
    }

    public int fill() {
        if (!hasPlan()) {
            return NONE;
        }
        int before = now.rows.size;
        if (before >= MOST_ROWS || mixes.openCount() == 0) {
            return 0;
        }
        remember();
        for (int n = before; n < MOST_ROWS && mixes.openCount() > 0; n++) {
            append(maker.makeRow(now.plan, mixes));
        }
        return now.rows.size - before;
    }

    public int field() {
        if (!hasPlan()) {
            return NONE;
        }
        int q = now.plan.fieldSize();
        int wanted = Field.power(q, now.plan.strength);
        if (q == 0 || wanted > MOST_ROWS) {
            return CANNOT_BE;
        }
        for (int i = 0; i < wanted; i++) {
            if (!now.plan.allows(now.plan.rowOfPolynomial(i, q))) {
                return CANNOT_BE;
            }
        }
        remember();
        now.rows.size = 0;
        for (int i = 0; i < wanted; i++) {
            now.rows.append(now.plan.rowOfPolynomial(i, q));
        }
        mixes.recount(now.rows);
        return q;
    }

    public int widen(int levels) {
        if (!hasPlan() || levels < 2 || levels > MOST_LEVELS || now.plan.columns >= MOST_COLUMNS
                || reader.mixesIfWider(now.plan, levels) > MOST_MIXES) {
            return NONE;
        }
        remember();
        now.plan.addColumn(levels);
        rebuild();
        return mixes.size();
    }

    public int settle() {
        if (!hasPlan()) {
            return NONE;
        }
        remember();
        int free = 0;
        for (int row = 0; row < now.rows.size; row++) {
            for (int column = 0; column < now.plan.columns; column++) {
                if (levelIn(now.rows.cells[row], column) == NONE) {
                    settleCell(row, column);
                    free++;
                }
            }
        }
        return free;
    }

    public int thin() {
        if (!hasPlan()) {
            return NONE;
        }
        remember();
        int before = now.rows.size;
        for (int row = before - 1; row >= 0; row--) {
            if (mixes.hadBesides(now.rows.cells[row])) {
                takeAway(row);
            }
        }
        return before - now.rows.size;
    }

    public int order() {
        if (!hasPlan()) {
            return NONE;
        }
        remember();
        return placer.place(now.rows, mixes);
    }

    public int drawn() {
        if (!hasPlan() || now.rows.size >= MOST_ROWS) {
            return NONE;
        }
        remember();
        int row = 0;
        for (int column = 0; column < now.plan.columns; column++) {
            int levels = now.plan.levelsLeft(row, column);
            int pick = drawOf(Integer.bitCount(levels));
            for (int i = 0; i < pick; i++) {
                levels &= levels - 1;
            }
            row |= (levels & -levels) << 4 * column;
        }
        append(row);
        return now.plan.digitsOf(row);
    }

    public int draws(int x) {
        if (x < 0) {
            return NONE;
        }
        int was = now.x;
        now.x = x;
        return was;
    }

    public int gain(int row) {
        return isRow(row) ? mixes.gainOf(now.rows, row) : NONE;
    }

    public int least() {
        return hasPlan() ? mixes.mostOfOneSet() : NONE;
    }

    public int lawful(int digits) {
        int row = rowBy(digits);
        return row == NO_ROW ? NONE : Plan.lawfulIn(now.plan, now.plan.leftTo(row), 0);
    }

    public int result(int row, int how) {
        if (!isRow(row) || how < UNTOLD || how > FAILED) {
            return NONE;
        }
        int was = now.rows.told[row];
        if (was == how) {
            return IS_SO;
        }
        remember();
        now.rows.told[row] = how;
        return was;
    }

    public int guilty(int columns, int k) {
        if (!hasPlan() || columns < 1 || columns > now.plan.strength || k < NONE) {
            return NONE;
        }
        suspects.find(now.plan, now.rows, columns);
        if (k == NONE) {
            return suspects.size;
        }
        return k < suspects.size ? suspects.numbers[k] : NOT_SO_MANY;
    }

    public int ask(int what) {
        if (!hasPlan() || what < 0 || what > 1) {
            return NONE;
        }
        suspects.find(now.plan, now.rows, now.plan.strength);
        int row = suspects.rowThatPartsBest(now.rows);
        if (row == NONE) {
            return -2;
        }
        return what == 0 ? row : suspects.lesserPart(now.rows.cells[row]);
    }

    public int undo() {
        if (pastSize == 0) {
            return NONE;
        }
        pastEnd = (pastEnd + MOST_ACTS - 1) % MOST_ACTS;
        pastSize--;
        restore(past[pastEnd]);
        return pastSize;
    }

    public int keep(int shelf) {
        if (shelf < 0 || shelf >= SHELVES || !hasPlan()) {
            return NONE;
        }
        shelves[shelf].copyFrom(now);
        return now.rows.size;
    }

    public int back(int shelf) {
        if (shelf < 0 || shelf >= SHELVES) {
            return NONE;
        }
        if (shelves[shelf].plan.columns == 0) {
            return -2;
        }
        restore(shelves[shelf]);
        pastSize = 0;
        return now.rows.size;
    }

    public int count(int what) {
        switch (what) {
            case 0: return now.plan.columns;
            case 1: return hasPlan() ? now.plan.strength : 0;
            case 2: return mixCount();
            case 3: return hasPlan() ? mixes.possible : 0;
            case 4: return now.plan.neverCount;
            case 5: return now.rows.size;
            case 6: return now.rows.wholeOnes(now.plan.columns);
            case 7: return now.rows.freeCells(now.plan.columns);
            case 8: return now.rows.toldAs(PASSED);
            case 9: return now.rows.toldAs(FAILED);
            case 10: return pastSize;
            case 11: return now.x;
            case 12: return tape.size;
            default: return NONE;
        }
    }

    private boolean hasPlan() {
        return now.plan.columns > 0;
    }

    private boolean isRow(int row) {
        return row >= 0 && row < now.rows.size;
    }

    private boolean isColumn(int column) {
        return column >= 0 && column < now.plan.columns;
    }

    private int mixCount() {
        return hasPlan() ? mixes.size() : 0;
    }

    private int rowBy(int digits) {
        return hasPlan() ? now.plan.rowOfDigits(digits) : NO_ROW;
    }

    private void append(int row) {
        now.rows.append(row);
        mixes.change(0, row);
    }

    private void takeAway(int row) {
        mixes.change(now.rows.cells[row], 0);
        now.rows.remove(row);
    }

    private void settleCell(int row, int column) {
        int before = now.rows.cells[row];
        int levels = now.plan.levelsLeft(before, column);
        int best = before;
        int most = -1;
        for (int level = 0; level < MOST_LEVELS; level++) {
            if ((levels & 1 << level) != 0) {
                int after = before | 1 << 4 * column + level;
                int more = mixes.openIn(after);
                if (more > most) {
                    most = more;
                    best = after;
                }
            }
        }
        mixes.change(before, best);
        now.rows.cells[row] = best;
    }

    private int drawOf(int k) {
        now.x = now.x * 1103515245 + 12345 & 0x7fffffff;
        return k > 0 ? now.x / 65536 % k : 0;
    }

    private void remember() {
        past[pastEnd].copyFrom(now);
        pastEnd = (pastEnd + 1) % MOST_ACTS;
        pastSize = Math.min(pastSize + 1, MOST_ACTS);
    }

    private void restore(State from) {
        boolean samePlan = now.plan.sameAs(from.plan);
        now.copyFrom(from);
        if (samePlan) {
            mixes.recount(now.rows);
        } else {
            rebuild();
        }
    }

    private void rebuild() {
        mixes.build(now.plan);
        mixes.recount(now.rows);
    }

    /** The level that a row has in a column, NONE if it is free. */
    private static int levelIn(int row, int column) {
        int bit = row >>> 4 * column & 15;
        return bit == 0 ? NONE : (bit >> 1) - (bit >> 3);
    }

    /** All four bits of each column that has one. */
    private static int columnsOf(int cells) {
        int some = (cells | cells >>> 1 | cells >>> 2 | cells >>> 3) & 0x11111111;
        return some * 15;
    }

    /** The bytes that come before a plan. */
    private static final class Tape {
        final int[] bytes = new int[MOST_BYTES];
        int size;

        void put(int number) {
            for (int shift = 24; shift >= 0 && size < MOST_BYTES; shift -= 8) {
                bytes[size] = number >>> shift & 255;
                size++;
            }
        }
    }

    /** All that is kept and undone. */
    private static final class State {
        final Plan plan = new Plan();
        final Rows rows = new Rows();
        int x;

        void copyFrom(State other) {
            plan.copyFrom(other.plan);
            rows.copyFrom(other.rows);
            x = other.x;
        }
    }

    /** Columns, strength and nevers, and what these leave to a row. No columns: no plan. */
    private static final class Plan {
        /** Far more than the cells that can be taken from a row, one at a step. */
        private static final int DEEPEST = 40;

        int columns;
        int strength;
        int neverCount;
        /** Each level of each column. */
        int all;
        final int[] levels = new int[MOST_COLUMNS];
        final int[] nevers = new int[MOST_NEVERS];
        final int[] neverColumns = new int[MOST_NEVERS];

        void clear() {
            columns = 0;
            strength = 2;
            neverCount = 0;
            all = 0;
        }

        void addColumn(int howMany) {
            if (columns < MOST_COLUMNS) {
                levels[columns] = howMany;
                all |= (1 << howMany) - 1 << 4 * columns;
                columns++;
            }
        }

        void addNever(int cells) {
            if (neverCount < MOST_NEVERS) {
                nevers[neverCount] = cells;
                neverColumns[neverCount] = columnsOf(cells);
                neverCount++;
            }
        }

        void copyFrom(Plan other) {
            columns = other.columns;
            strength = other.strength;
            neverCount = other.neverCount;
            all = other.all;
            System.arraycopy(other.levels, 0, levels, 0, MOST_COLUMNS);
            System.arraycopy(other.nevers, 0, nevers, 0, MOST_NEVERS);
            System.arraycopy(other.neverColumns, 0, neverColumns, 0, MOST_NEVERS);
        }

        boolean sameAs(Plan other) {
            boolean same = columns == other.columns && strength == other.strength
                    && neverCount == other.neverCount && all == other.all;
            for (int i = 0; same && i < neverCount; i++) {
                same = nevers[i] == other.nevers[i];
            }
            return same;
        }

        int rowOfDigits(int digits) {
            if (digits < 0) {
                return NO_ROW;
            }
            int rest = digits;
            int row = 0;
            for (int column = columns - 1; column >= 0; column--) {
                int digit = rest % 10;
                rest /= 10;
                if (digit < levels[column]) {
                    row |= 1 << 4 * column + digit;
                } else if (digit != FREE_DIGIT) {
                    return NO_ROW;
                }
            }
            return rest == 0 ? row : NO_ROW;
        }

        int digitsOf(int wholeRow) {
            int digits = 0;
            for (int column = 0; column < columns; column++) {
                digits = digits * 10 + levelIn(wholeRow, column);
            }
            return digits;
        }

        int fieldSize() {
            int least = columns - 1;
            for (int column = 0; column < columns; column++) {
                least = Math.max(least, levels[column]);
            }
            return Field.sizeFor(least);
        }

        int rowOfPolynomial(int number, int q) {
            int row = 0;
            for (int column = 0; column < columns; column++) {
                int value = column < q ? Field.valueAt(column, number, strength, q) : Field.lastOf(number, q);
                if (value < levels[column]) {
                    row |= 1 << 4 * column + value;
                }
            }
            return row;
        }

        /** The levels of each column that a row with these cells could have there. */
        int leftTo(int cells) {
            return all & ~columnsOf(cells) | cells;
        }

        boolean allows(int cells) {
            return lawfulRow(this, leftTo(cells), 0) != 0;
        }

        /** The levels, a bit each, that a row that is free there can get in a column. */
        int levelsLeft(int row, int column) {
            int found = 0;
            for (int level = 0; level < levels[column]; level++) {
                if (allows(row | 1 << 4 * column + level)) {
                    found |= 1 << level;
                }
            }
            return found;
        }

        /** A lawful row with these cells, 0 if there is none; at first one tries a known one that is near. */
        int lawfulNear(int known, int cells) {
            int row = known & ~columnsOf(cells) | cells;
            for (int i = 0; i < neverCount; i++) {
                if ((nevers[i] & ~row) == 0) {
                    return lawfulRow(this, leftTo(cells), 0);
                }
            }
            return row;
        }

        /** A lawful row of what is left, 0 if there is none. */
        private static int lawfulRow(Plan plan, int left, int depth) {
            int narrowed = plan.narrow(left);
            if (narrowed == 0 || depth > DEEPEST) {
                return 0;
            }
            int cell = plan.openCell(narrowed);
            if (cell == 0) {
                return plan.leastRow(narrowed);
            }
            int row = lawfulRow(plan, narrowed & ~cell, depth + 1);
            return row != 0 ? row : lawfulRow(plan, withOnly(narrowed, cell), depth + 1);
        }

        /** How many lawful rows what is left holds. */
        private static int lawfulIn(Plan plan, int left, int depth) {
            int narrowed = plan.narrow(left);
            if (narrowed == 0 || depth > DEEPEST) {
                return 0;
            }
            int cell = plan.openCell(narrowed);
            if (cell == 0) {
                return plan.rowsIn(narrowed);
            }
            return lawfulIn(plan, narrowed & ~cell, depth + 1) + lawfulIn(plan, withOnly(narrowed, cell), depth + 1);
        }

        /** What is left without the cells that no lawful row of it has; 0 if it breaks a never as it is. */
        private int narrow(int left) {
            int rest = left;
            boolean again = neverCount > 0;
            for (int turn = 0; again && turn < DEEPEST; turn++) {
                again = false;
                for (int i = 0; i < neverCount; i++) {
                    if ((nevers[i] & ~rest) == 0) {
                        // Of the never's cells those whose columns have another level left.
                        int loose = nevers[i] & columnsOf(rest & neverColumns[i] & ~nevers[i]);
                        if (loose == 0) {
                            return 0;
                        }
                        if ((loose & loose - 1) == 0) {
                            rest &= ~loose;
                            again = true;
                        }
                    }
                }
            }
            return rest;
        }

        /** A cell on which it still hangs whether a never is broken; 0 if there is none. */
        private int openCell(int left) {
            for (int i = 0; i < neverCount; i++) {
                if ((nevers[i] & ~left) == 0) {
                    int loose = nevers[i] & columnsOf(left & neverColumns[i] & ~nevers[i]);
                    return loose & -loose;
                }
            }
            return 0;
        }

        private static int withOnly(int left, int cell) {
            return left & ~columnsOf(cell) | cell;
        }

        private int leastRow(int left) {
            int row = 0;
            for (int column = 0; column < columns; column++) {
                int here = left >>> 4 * column & 15;
                row |= (here & -here) << 4 * column;
            }
            return row;
        }

        private int rowsIn(int left) {
            int product = 1;
            for (int column = 0; column < columns; column++) {
                product *= Integer.bitCount(left >>> 4 * column & 15);
            }
            return product;
        }
    }

    /** Reads a plan from the tape; the first fault stays. */
    private static final class PlanReader {
        final Plan draft = new Plan();
        private final ColumnSets sets = new ColumnSets();
        private int[] text = new int[0];
        private int size;
        private int at;
        private int fault;
        private boolean strengthTold;

        /** The fault, NONE if the draft is a plan. */
        int read(Tape tape) {
            text = tape.bytes;
            size = tape.size;
            at = 0;
            fault = NONE;
            strengthTold = false;
            draft.clear();
            skipBlanks();
            readLevels();
            for (int lines = 0; fault == NONE && at < size && lines < MOST_BYTES; lines++) {
                readLine();
            }
            if (fault == NONE && (mixesOf(draft) > MOST_MIXES || !draft.allows(0))) {
                fail(size, 4);
            }
            return fault;
        }

        int mixesIfWider(Plan plan, int levels) {
            draft.copyFrom(plan);
            draft.addColumn(levels);
            return mixesOf(draft);
        }

        private int mixesOf(Plan plan) {
            sets.build(plan, plan.strength);
            return sets.first[sets.size];
        }

        private void readLevels() {
            takeWord("levels");
            for (int n = 0; fault == NONE && n <= MOST_COLUMNS && (n < 2 || isDigit()); n++) {
                int begin = at;
                int howMany = takeNumber(2, MOST_LEVELS);
                if (n == MOST_COLUMNS) {
                    fail(begin, 3);
                }
                if (fault == NONE) {
                    draft.addColumn(howMany);
                }
            }
        }

        private void readLine() {
            takeByte(';');
            if (fault != NONE) {
                return;
            }
            if (isWord("strength")) {
                readStrength();
            } else {
                readNever();
            }
        }

        private void readStrength() {
            if (strengthTold) {
                fail(at, 3);
            }
            strengthTold = true;
            takeWord("strength");
            int number = takeNumber(1, Math.min(MOST_STRENGTH, draft.columns));
            if (fault == NONE) {
                draft.strength = number;
            }
        }

        private void readNever() {
            if (isWord("never") && draft.neverCount == MOST_NEVERS) {
                fail(at, 3);
            }
            takeWord("never");
            int cells = 0;
            boolean more = true;
            for (int n = 0; more && fault == NONE && n <= MOST_STRENGTH; n++) {
                cells |= readCell(cells, n == MOST_STRENGTH);
                more = fault == NONE && isByte('&');
                if (more) {
                    takeByte('&');
                }
            }
            if (fault == NONE) {
                draft.addNever(cells);
            }
        }

        /** The cell, 0 behind a fault. */
        private int readCell(int cellsBefore, boolean oneTooMany) {
            int begin = at;
            int column = takeNumber(0, draft.columns - 1);
            if (fault == NONE && levelIn(cellsBefore, column) != NONE) {
                fail(begin, 2);
            }
            if (oneTooMany) {
                fail(begin, 3);
            }
            takeByte('.');
            if (fault != NONE) {
                return 0;
            }
            int level = takeNumber(0, draft.levels[column] - 1);
            return fault == NONE ? 1 << 4 * column + level : 0;
        }

        private void fail(int place, int kind) {
            if (fault == NONE) {
                fault = 8 * place + kind;
            }
        }

        private void skipBlanks() {
            while (at < size && text[at] == ' ') {
                at++;
            }
        }

        private boolean isByte(char wanted) {
            return at < size && text[at] == wanted;
        }

        private boolean isDigit() {
            return at < size && text[at] >= '0' && text[at] <= '9';
        }

        private boolean isLetter(int place) {
            return place < size && text[place] >= 'a' && text[place] <= 'z';
        }

        private boolean isWord(String word) {
            int length = word.length();
            for (int i = 0; i < length; i++) {
                if (!isLetter(at + i) || text[at + i] != word.charAt(i)) {
                    return false;
                }
            }
            return !isLetter(at + length);
        }

        private void takeByte(char wanted) {
            if (fault != NONE) {
                return;
            }
            if (!isByte(wanted)) {
                fail(at, 1);
                return;
            }
            at++;
            skipBlanks();
        }

        private void takeWord(String word) {
            if (fault != NONE) {
                return;
            }
            if (!isWord(word)) {
                fail(at, 1);
                return;
            }
            at += word.length();
            skipBlanks();
        }

        /** A number, which is 0 behind a fault. */
        private int takeNumber(int least, int most) {
            if (fault != NONE) {
                return 0;
            }
            if (!isDigit()) {
                fail(at, 1);
                return 0;
            }
            int begin = at;
            int number = 0;
            while (at < size && isDigit()) {
                // A cap, as two hundred digits would wrap around.
                number = Math.min(1000, number * 10 + text[at] - '0');
                at++;
            }
            skipBlanks();
            if (number < least || number > most) {
                fail(begin, 2);
                return 0;
            }
            return number;
        }
    }

    /** The sets of so many columns, and the number of the first mix of each. */
    private static final class ColumnSets {
        int size;
        int width;
        final int[] columns = new int[MOST_SETS * MOST_STRENGTH];
        final int[] first = new int[MOST_SETS + 1];
        private final int[] pick = new int[MOST_STRENGTH];
        private final int[] levels = new int[MOST_COLUMNS];

        void build(Plan plan, int howMany) {
            width = Math.min(howMany, MOST_STRENGTH);
            size = 0;
            System.arraycopy(plan.levels, 0, levels, 0, MOST_COLUMNS);
            for (int j = 0; j < width; j++) {
                pick[j] = j;
            }
            boolean more = width >= 1 && width <= plan.columns;
            while (more && size < MOST_SETS) {
                int product = 1;
                for (int j = 0; j < width; j++) {
                    columns[size * MOST_STRENGTH + j] = pick[j];
                    product *= levels[pick[j]];
                }
                first[size + 1] = first[size] + product;
                size++;
                more = nextPick(plan.columns);
            }
        }

        private boolean nextPick(int columnCount) {
            int j = width - 1;
            while (j >= 0 && pick[j] >= columnCount - width + j) {
                j--;
            }
            if (j < 0) {
                return false;
            }
            pick[j]++;
            for (int i = j + 1; i < width; i++) {
                pick[i] = pick[i - 1] + 1;
            }
            return true;
        }

        int columnAt(int set, int place) {
            return columns[set * MOST_STRENGTH + place];
        }

        int levelsAt(int set, int place) {
            return levels[columnAt(set, place)];
        }

        /** The number of the mix that a row has in a set, NONE if the row is free there. */
        int numberIn(int set, int row) {
            int number = 0;
            for (int j = 0; j < width; j++) {
                int column = columns[set * MOST_STRENGTH + j];
                int level = levelIn(row, column);
                if (level == NONE) {
                    return NONE;
                }
                number = number * levels[column] + level;
            }
            return first[set] + number;
        }

        /** The cells that a row has in a set. */
        int cellsIn(int set, int row) {
            int cells = 0;
            for (int j = 0; j < width; j++) {
                cells |= row & 15 << 4 * columns[set * MOST_STRENGTH + j];
            }
            return cells;
        }
    }

    /** The mixes of a plan, and by how many rows each is had. */
    private static final class Mixes {
        final ColumnSets sets = new ColumnSets();
        /** The cells of each mix. */
        final int[] bits = new int[MOST_MIXES];
        /** A lawful row that has the mix, 0 if it can't be. */
        final int[] sample = new int[MOST_MIXES];
        final int[] had = new int[MOST_MIXES];
        int possible;

        int size() {
            return Math.min(sets.first[sets.size], MOST_MIXES);
        }

        void build(Plan plan) {
            sets.build(plan, plan.strength);
            int known = Plan.lawfulRow(plan, plan.all, 0);
            possible = 0;
            for (int set = 0; set < sets.size; set++) {
                for (int mix = sets.first[set]; mix < sets.first[set + 1] && mix < MOST_MIXES; mix++) {
                    bits[mix] = cellsOf(set, mix);
                    sample[mix] = plan.lawfulNear(known, bits[mix]);
                    possible += sample[mix] != 0 ? 1 : 0;
                }
            }
        }

        private int cellsOf(int set, int mix) {
            int rest = mix - sets.first[set];
            int cells = 0;
            for (int j = sets.width - 1; j >= 0; j--) {
                int howMany = Math.max(1, sets.levelsAt(set, j));
                cells |= 1 << 4 * sets.columnAt(set, j) + rest % howMany;
                rest /= howMany;
            }
            return cells;
        }

        private int setOf(int mix) {
            int set = 0;
            while (set + 1 < sets.size && sets.first[set + 1] <= mix) {
                set++;
            }
            return set;
        }

        int columnOf(int mix, int place) {
            return place < sets.width ? sets.columnAt(setOf(mix), place) : NOT_SO_MANY;
        }

        int levelOf(int mix, int place) {
            return place < sets.width ? levelIn(bits[mix], columnOf(mix, place)) : NOT_SO_MANY;
        }

        void recount(Rows rows) {
            int howMany = size();
            for (int mix = 0; mix < howMany; mix++) {
                had[mix] = 0;
            }
            for (int row = 0; row < rows.size; row++) {
                change(0, rows.cells[row]);
            }
        }

        /** A row is no longer as before, but as after (0: it is not there). */
        void change(int before, int after) {
            for (int set = 0; set < sets.size; set++) {
                int old = before == 0 ? NONE : sets.numberIn(set, before);
                int young = after == 0 ? NONE : sets.numberIn(set, after);
                if (old != NONE) {
                    had[old]--;
                }
                if (young != NONE) {
                    had[young]++;
                }
            }
        }

        boolean isOpen(int mix) {
            return had[mix] == 0 && sample[mix] != 0;
        }

        int openCount() {
            int howMany = size();
            int found = 0;
            for (int mix = 0; mix < howMany; mix++) {
                if (isOpen(mix)) {
                    found++;
                }
            }
            return found;
        }

        int openAt(int k) {
            int howMany = size();
            int found = 0;
            for (int mix = 0; mix < howMany; mix++) {
                if (isOpen(mix)) {
                    if (found == k) {
                        return mix;
                    }
                    found++;
                }
            }
            return NOT_SO_MANY;
        }

        /** How many open mixes a row that is not counted has. */
        int openIn(int row) {
            int found = 0;
            for (int set = 0; set < sets.size; set++) {
                int mix = sets.numberIn(set, row);
                if (mix != NONE && isOpen(mix)) {
                    found++;
                }
            }
            return found;
        }

        /** Whether all mixes of a row that is counted are had by others, too. */
        boolean hadBesides(int row) {
            for (int set = 0; set < sets.size; set++) {
                int mix = sets.numberIn(set, row);
                if (mix != NONE && had[mix] < 2) {
                    return false;
                }
            }
            return true;
        }

        int gainOf(Rows rows, int row) {
            int gain = 0;
            for (int set = 0; set < sets.size; set++) {
                int mix = sets.numberIn(set, rows.cells[row]);
                if (mix != NONE && (had[mix] == 1 || rows.firstThatHas(bits[mix]) == row)) {
                    gain++;
                }
            }
            return gain;
        }

        int mostOfOneSet() {
            int most = 0;
            for (int set = 0; set < sets.size; set++) {
                int found = 0;
                for (int mix = sets.first[set]; mix < sets.first[set + 1] && mix < MOST_MIXES; mix++) {
                    found += sample[mix] != 0 ? 1 : 0;
                }
                most = Math.max(most, found);
            }
            return most;
        }
    }

    /** The rows, and how each is told. */
    private static final class Rows {
        int size;
        final int[] cells = new int[MOST_ROWS];
        final int[] told = new int[MOST_ROWS];

        void copyFrom(Rows other) {
            size = other.size;
            System.arraycopy(other.cells, 0, cells, 0, size);
            System.arraycopy(other.told, 0, told, 0, size);
        }

        void append(int row) {
            if (size < MOST_ROWS) {
                cells[size] = row;
                told[size] = UNTOLD;
                size++;
            }
        }

        void remove(int row) {
            size--;
            System.arraycopy(cells, row + 1, cells, row, size - row);
            System.arraycopy(told, row + 1, told, row, size - row);
        }

        int firstThatHas(int mix) {
            for (int row = 0; row < size; row++) {
                if ((mix & ~cells[row]) == 0) {
                    return row;
                }
            }
            return NOT_SO_MANY;
        }

        int wholeOnes(int columns) {
            int whole = 0;
            for (int row = 0; row < size; row++) {
                whole += Integer.bitCount(cells[row]) == columns ? 1 : 0;
            }
            return whole;
        }

        int freeCells(int columns) {
            int free = 0;
            for (int row = 0; row < size; row++) {
                free += columns - Integer.bitCount(cells[row]);
            }
            return free;
        }

        int toldAs(int how) {
            int found = 0;
            for (int row = 0; row < size; row++) {
                found += told[row] == how ? 1 : 0;
            }
            return found;
        }
    }

    /** Makes rows by greed. A mix that once can't be with the row is let go, as it can't be with more of it. */
    private static final class RowMaker {
        private static final int SHARE = 60;

        private final int[] cells = new int[MOST_MIXES];
        private final int[] weights = new int[MOST_MIXES];
        /** A lawful row for each mix, which has it and what the row has so far. */
        private final int[] samples = new int[MOST_MIXES];
        private int size;
        /** The nevers that have the cell that is tried. */
        private final int[] near = new int[MOST_NEVERS];
        private int nearCount;

        int makeRow(Plan plan, Mixes mixes) {
            gather(mixes);
            int row = 0;
            for (int column = 0; column < plan.columns; column++) {
                int cell = bestCell(plan, row, column);
                keepWith(plan, row, column, cell);
                row |= cell;
            }
            return row;
        }

        long hopeOf(int row, Plan plan, Mixes mixes) {
            int known = Plan.lawfulRow(plan, plan.leftTo(row), 0);
            if (known == 0) {
                return 0;
            }
            long hope = 0;
            for (int set = 0; set < mixes.sets.size; set++) {
                int weight = weightOf(mixes.sets, set, row);
                for (int mix = mixes.sets.first[set]; mix < mixes.sets.first[set + 1]; mix++) {
                    int bits = mixes.bits[mix];
                    boolean apart = (row & columnsOf(bits) & ~bits) != 0;
                    if (!apart && mixes.isOpen(mix) && plan.lawfulNear(known, row | bits) != 0) {
                        hope += weight;
                    }
                }
            }
            return hope;
        }

        private int weightOf(ColumnSets sets, int set, int row) {
            int weight = 1;
            for (int j = 0; j < sets.width; j++) {
                boolean has = levelIn(row, sets.columnAt(set, j)) != NONE;
                weight *= has ? SHARE : SHARE / Math.max(1, sets.levelsAt(set, j));
            }
            return weight;
        }

        private void gather(Mixes mixes) {
            size = 0;
            for (int set = 0; set < mixes.sets.size; set++) {
                int weight = weightOf(mixes.sets, set, 0);
                for (int mix = mixes.sets.first[set]; mix < mixes.sets.first[set + 1]; mix++) {
                    if (mixes.isOpen(mix)) {
                        cells[size] = mixes.bits[mix];
                        weights[size] = weight;
                        samples[size] = mixes.sample[mix];
                        size++;
                    }
                }
            }
        }

        private int bestCell(Plan plan, int row, int column) {
            int left = plan.levelsLeft(row, column);
            int best = 0;
            long most = -1;
            for (int level = 0; level < plan.levels[column]; level++) {
                if ((left & 1 << level) != 0) {
                    int cell = 1 << 4 * column + level;
                    long hope = hopeWith(plan, row, column, cell);
                    if (hope > most) {
                        most = hope;
                        best = cell;
                    }
                }
            }
            return best;
        }

        private long hopeWith(Plan plan, int row, int column, int cell) {
            findNear(plan, cell);
            int here = 15 << 4 * column;
            long hope = 0;
            for (int i = 0; i < size; i++) {
                if ((cells[i] & here) == 0) {
                    boolean can = nearCount == 0 || sampleWith(plan, i, row, cell) != 0;
                    hope += can ? weights[i] : 0;
                } else if ((cells[i] & cell) != 0) {
                    hope += weights[i] * plan.levels[column];
                }
            }
            return hope;
        }

        private void keepWith(Plan plan, int row, int column, int cell) {
            findNear(plan, cell);
            int here = 15 << 4 * column;
            int kept = 0;
            for (int i = 0; i < size; i++) {
                boolean has = (cells[i] & here) != 0;
                int sample = has && (cells[i] & cell) == 0 ? 0 : sampleWith(plan, i, row, cell);
                if (sample != 0) {
                    cells[kept] = cells[i];
                    weights[kept] = has ? weights[i] * plan.levels[column] : weights[i];
                    samples[kept] = sample;
                    kept++;
                }
            }
            size = kept;
        }

        private void findNear(Plan plan, int cell) {
            nearCount = 0;
            for (int i = 0; i < plan.neverCount; i++) {
                if ((plan.nevers[i] & cell) != 0) {
                    near[nearCount] = plan.nevers[i];
                    nearCount++;
                }
            }
        }

        /** A lawful row that has the mix, the row and the cell, 0 if there is none. */
        private int sampleWith(Plan plan, int i, int row, int cell) {
            int changed = samples[i] & ~columnsOf(cell) | cell;
            for (int n = 0; n < nearCount; n++) {
                if ((near[n] & ~changed) == 0) {
                    return Plan.lawfulRow(plan, plan.leftTo(row | cells[i] | cell), 0);
                }
            }
            return changed;
        }
    }

    /** Puts rows in another order. */
    private static final class Placer {
        private final Rows placed = new Rows();
        private final int[] more = new int[MOST_ROWS];
        private final boolean[] seen = new boolean[MOST_MIXES];

        /** How many rows have a mix that none ahead of them has. */
        int place(Rows rows, Mixes mixes) {
            start(rows, mixes);
            int useful = 0;
            for (int n = 0; n < rows.size; n++) {
                int next = bestOf(rows);
                useful += more[next] > 0 ? 1 : 0;
                placed.append(rows.cells[next]);
                placed.told[n] = rows.told[next];
                markSeen(rows, mixes, rows.cells[next]);
                more[next] = NONE;
            }
            rows.copyFrom(placed);
            return useful;
        }

        private void start(Rows rows, Mixes mixes) {
            placed.size = 0;
            int howMany = mixes.size();
            for (int mix = 0; mix < howMany; mix++) {
                seen[mix] = false;
            }
            for (int row = 0; row < rows.size; row++) {
                more[row] = 0;
                for (int set = 0; set < mixes.sets.size; set++) {
                    more[row] += mixes.sets.numberIn(set, rows.cells[row]) != NONE ? 1 : 0;
                }
            }
        }

        private int bestOf(Rows rows) {
            int best = 0;
            for (int row = 1; row < rows.size; row++) {
                if (more[row] > more[best]) {
                    best = row;
                }
            }
            return best;
        }

        private void markSeen(Rows rows, Mixes mixes, int cells) {
            for (int set = 0; set < mixes.sets.size; set++) {
                int mix = mixes.sets.numberIn(set, cells);
                if (mix != NONE && !seen[mix]) {
                    seen[mix] = true;
                    for (int row = 0; row < rows.size; row++) {
                        if (more[row] > 0 && (mixes.bits[mix] & ~rows.cells[row]) == 0) {
                            more[row]--;
                        }
                    }
                }
            }
        }
    }

    /** The mixes that can be guilty: one a set of columns at most, as all failed rows have it. */
    private static final class Suspects {
        final int[] numbers = new int[MOST_SETS];
        private final int[] bits = new int[MOST_SETS];
        private final ColumnSets sets = new ColumnSets();
        int size;

        void find(Plan plan, Rows rows, int columns) {
            size = 0;
            if (rows.toldAs(FAILED) == 0) {
                return;
            }
            int common = -1;
            for (int row = 0; row < rows.size; row++) {
                if (rows.told[row] == FAILED) {
                    common &= rows.cells[row];
                }
            }
            sets.build(plan, columns);
            for (int set = 0; set < sets.size; set++) {
                int number = sets.numberIn(set, common);
                int mix = sets.cellsIn(set, common);
                if (number != NONE && !passed(rows, mix)) {
                    numbers[size] = number;
                    bits[size] = mix;
                    size++;
                }
            }
        }

        private boolean passed(Rows rows, int mix) {
            for (int row = 0; row < rows.size; row++) {
                if (rows.told[row] == PASSED && (mix & ~rows.cells[row]) == 0) {
                    return true;
                }
            }
            return false;
        }

        int lesserPart(int row) {
            int has = 0;
            for (int i = 0; i < size; i++) {
                has += (bits[i] & ~row) == 0 ? 1 : 0;
            }
            return Math.min(has, size - has);
        }

        /** The row to ask, NONE if there is none. */
        int rowThatPartsBest(Rows rows) {
            int best = NONE;
            int most = -1;
            for (int row = 0; size > 0 && row < rows.size; row++) {
                if (rows.told[row] == UNTOLD) {
                    int lesser = lesserPart(rows.cells[row]);
                    if (lesser > most) {
                        most = lesser;
                        best = row;
                    }
                }
            }
            return best;
        }
    }

    /** The fields of 2, 3, 4, 5 and 7 numbers. */
    private static final class Field {
        private static final int[] SIZES = {2, 3, 4, 5, 7};
        private static final int[] TIMES_OF_FOUR = {0, 0, 0, 0, 0, 1, 2, 3, 0, 2, 3, 1, 0, 3, 1, 2};

        private Field() {
        }

        /** 0 if there is none so great. */
        static int sizeFor(int least) {
            for (int i = 0; i < SIZES.length; i++) {
                if (SIZES[i] >= least) {
                    return SIZES[i];
                }
            }
            return 0;
        }

        static int power(int q, int times) {
            int power = 1;
            for (int i = 0; i < times; i++) {
                power *= q;
            }
            return power;
        }

        /** The value of a polynomial whose numbers c are the digits of its own number, the last c the least. */
        static int valueAt(int z, int number, int terms, int q) {
            int rest = number;
            int value = 0;
            for (int i = 0; i < terms && q > 0; i++) {
                value = plus(times(value, z, q), rest % q, q);
                rest /= q;
            }
            return value;
        }

        static int lastOf(int number, int q) {
            return q > 0 ? number % q : 0;
        }

        private static int plus(int a, int b, int q) {
            return q == 4 ? a ^ b : (a + b) % q;
        }

        private static int times(int a, int b, int q) {
            return q == 4 ? TIMES_OF_FOUR[(a & 3) * 4 + (b & 3)] : a * b % q;
        }
    }
}
