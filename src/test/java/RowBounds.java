/** The bounds of rows told by hand and of what is asked of columns, mixes and rows (Terms, promises 1 and 5 to 13). */
public final class RowBounds {
    private static final int NONE = -1;
    private static final int MIN = Integer.MIN_VALUE;
    private static final int MAX = Integer.MAX_VALUE;
    private static final int[] BESIDE = {MIN, MIN + 1, -65537, -65, -9, -3, 1000, 65536, MAX - 1, MAX};

    private RowBounds() {
    }

    public static void main(String[] args) {
        twinsSeeEachAct();
        askingChangesNothing();
        levelsOfColumnsThatThereAre();
        mixesAreNumbered();
        mixNumbersThatThereAre();
        whatOfAMixThereIs();
        asManyColumnsAsAMixHas();
        firstAndLastRowOfAMix();
        asManyDigitsAsColumns();
        eachDigitOfEachColumn();
        addThatIsRefused();
        sixtyFourRowsByHand();
        tellBesideRowsColumnsLevels();
        tellAsItIs();
        tellWhatCantBe();
        cellBesideRowsColumns();
        dropBesideRows();
        dropFirstAndLastOf64();
        openFromAllToNone();
        openMixBesideTheOpenOnes();
        hopeOfOtherDigits();
        hopeOfAllAndOfNothing();
        withoutAPlan();
        Check.endOf("RowBounds");
    }

    /** Else Twins.stay() would say nothing. */
    private static void twinsSeeEachAct() {
        sees("add", c -> c.add(110));
        sees("tell", c -> c.tell(0, 0, 0));
        sees("drop", c -> c.drop(1));
        sees("greed", c -> c.greed());
        sees("fill", c -> c.fill());
        Check.due("probes see field", Twins.part(() -> Check.planned("levels 2 2 2"), c -> c.field()) ? 1 : 0, 1);
        sees("widen", c -> c.widen(2));
        sees("settle", c -> c.settle());
        sees("thin", c -> c.thin());
        sees("order", c -> c.order());
        sees("drawn", c -> c.drawn());
        sees("draws", c -> c.draws(0));
        sees("result", c -> c.result(1, 1));
        sees("result back", c -> c.result(0, 0));
        sees("undo", c -> c.undo());
        sees("keep 0", c -> c.keep(0));
        sees("keep 1", c -> c.keep(1));
        sees("back 0", c -> c.back(0));
        sees("feed", c -> c.feed(0, 0, 0, 0, 0));
        sees("end", c -> c.end(3));
        sees("plan", c -> c.plan());
    }

    private static void sees(String told, java.util.function.ToLongFunction<MixCover> call) {
        Check.due("probes see " + told, Twins.part(Samples::rich, call) ? 1 : 0, 1);
    }

    private static void asks(String told, java.util.function.ToLongFunction<MixCover> call) {
        Twins.stay(told, Samples::rich, call, call.applyAsLong(Samples.rich()));
        Twins.stay(told + " without a plan", Samples::noPlan, call, call.applyAsLong(Samples.noPlan()));
    }

    private static void askingChangesNothing() {
        asks("levels", c -> c.levels(1) + c.levels(-1));
        asks("mix", c -> c.mix(3, 0) + c.mix(3, 6) + c.mix(3, 7) + c.mix(99, 0));
        asks("cell", c -> c.cell(0, 0) + c.cell(9, 0));
        asks("open", c -> c.open());
        asks("openMix", c -> c.openMix(1) + c.openMix(99));
        asks("hope", c -> c.hope(999) + c.hope(90) + c.hope(29));
        asks("gain", c -> c.gain(1) + c.gain(-1));
        asks("least", c -> c.least());
        asks("lawful", c -> c.lawful(999) + c.lawful(29));
        asks("guilty", c -> c.guilty(1, NONE) + c.guilty(2, 0) + c.guilty(3, 0));
        asks("ask", c -> c.ask(0) + c.ask(1) + c.ask(2));
        asks("count", c -> c.count(6) + c.count(13));
    }

    // Promise 5: "NONE without it."
    private static void levelsOfColumnsThatThereAre() {
        for (int columns = 2; columns <= 8; columns++) {
            MixCover cover = Check.planned("levels" + " 3".repeat(columns - 1) + " 4");
            Check.due("levels(-1)", cover.levels(-1), NONE);
            Check.due("levels(0)", cover.levels(0), 3);
            Check.due("levels of the last", cover.levels(columns - 1), 4);
            Check.due("levels behind the last", cover.levels(columns), NONE);
            for (int column : BESIDE) {
                Check.due("levels(" + column + ")", cover.levels(column), NONE);
            }
        }
        // Of an earlier plan with more columns nothing is left.
        MixCover cover = Check.planned("levels 4 4 4 4 4 4 4 4");
        Check.plan(cover, "levels 2 2");
        Check.due("levels(2)", cover.levels(2), NONE);
        cover.widen(3);
        Check.due("levels(2), widened", cover.levels(2), 3);
        Check.due("levels(3), widened", cover.levels(3), NONE);
        cover.undo();
        Check.due("levels(2), undone", cover.levels(2), NONE);
    }

    // "MIXES are numbered from 0 on by their COLUMNS .., of like ones by their LEVELS": each one of some plans.
    private static void mixesAreNumbered() {
        String[] plans = {"levels 2 3 4", "levels 4 2", "levels 3 2 2 4 2", "levels 2 2 2 2 2 2 2 3"};
        for (String plan : plans) {
            for (int t = 1; t <= 3; t++) {
                MixCover cover = new MixCover();
                if (Check.plan(cover, plan + ";strength " + t) < 0) {
                    Check.due("columns of \"" + plan + "\"", plan.length(), 10);
                } else {
                    int next = numbered(cover, t, 0, 0, new int[3]);
                    Check.due("mixes by T " + t + " of \"" + plan + "\"", cover.count(2), next);
                }
            }
        }
    }

    private static int numbered(MixCover cover, int t, int at, int from, int[] columns) {
        int first = from;
        if (at < t) {
            for (int column = at == 0 ? 0 : columns[at - 1] + 1; column < cover.count(0); column++) {
                columns[at] = column;
                first = numbered(cover, t, at + 1, first, columns);
            }
            return first;
        }
        int all = 1;
        for (int j = 0; j < t; j++) {
            all *= cover.levels(columns[j]);
        }
        for (int mix = first; mix < first + all; mix++) {
            int below = all;
            for (int j = 0; j < t; j++) {
                below /= cover.levels(columns[j]);
                Check.due("mix(" + mix + ", " + j + ")", cover.mix(mix, j), columns[j]);
                Check.due("mix(" + mix + ", 3 + " + j + ")", cover.mix(mix, 3 + j),
                        (mix - first) / below % cover.levels(columns[j]));
            }
        }
        return first + all;
    }

    // Promise 6: "NONE without these": the MIX.
    private static void mixNumbersThatThereAre() {
        int[] mixes = {9, 26, 24};
        for (int t = 1; t <= 3; t++) {
            MixCover cover = Check.planned("levels 2 3 4;strength " + t);
            for (int what = 0; what <= 8; what++) {
                Check.due("mix(-1)", cover.mix(-1, what), NONE);
                Check.due("mix behind the last", cover.mix(mixes[t - 1], what), NONE);
                for (int mix : BESIDE) {
                    Check.due("mix(" + mix + ")", cover.mix(mix, what), NONE);
                }
            }
            Check.due("the first", cover.mix(0, 0), 0);
            Check.due("the last", cover.mix(mixes[t - 1] - 1, t - 1), 2);
            Check.due("its level", cover.mix(mixes[t - 1] - 1, t + 2), 3);
        }
    }

    // Promise 6: "what 0 to 2 .., 3 to 5 .., 6 .., 7 .., 8 ..  NONE without these": the what.
    private static void whatOfAMixThereIs() {
        MixCover cover = Check.planned("levels 2 3 4;strength 3");
        cover.add(123);
        int[] want = {0, 1, 2, 1, 2, 3, 1, 1, 0};
        for (int what = 0; what <= 8; what++) {
            Check.due("mix(23, " + what + ")", cover.mix(23, what), want[what]);
        }
        Check.due("mix(23, -1)", cover.mix(23, -1), NONE);
        Check.due("mix(23, 9)", cover.mix(23, 9), NONE);
        for (int what : BESIDE) {
            Check.due("mix(23, " + what + ")", cover.mix(23, what), NONE);
        }
    }

    // Promise 6: "-2: it has not so many", "(likewise)".
    private static void asManyColumnsAsAMixHas() {
        for (int t = 1; t <= 3; t++) {
            MixCover cover = Check.planned("levels 2 2 2 2;strength " + t);
            int last = cover.count(2) - 1;
            for (int j = 0; j < 3; j++) {
                Check.due("column " + j + " of the first, T " + t, cover.mix(0, j), j < t ? j : -2);
                Check.due("level " + j + " of the first, T " + t, cover.mix(0, 3 + j), j < t ? 0 : -2);
                Check.due("column " + j + " of the last, T " + t, cover.mix(last, j), j < t ? 4 - t + j : -2);
                Check.due("level " + j + " of the last, T " + t, cover.mix(last, 3 + j), j < t ? 1 : -2);
            }
        }
    }

    // Promise 6: "8: the first of these (-2: none)", up to 64 rows.
    private static void firstAndLastRowOfAMix() {
        MixCover cover = Check.planned("levels 2 2");
        Check.due("no rows: how many", cover.mix(3, 7), 0);
        Check.due("no rows: the first", cover.mix(3, 8), -2);
        for (int row = 0; row < 63; row++) {
            cover.add(row % 2);
        }
        Check.due("63 without it: how many", cover.mix(3, 7), 0);
        Check.due("63 without it: the first", cover.mix(3, 8), -2);
        cover.add(11);
        Check.due("the 64th: how many", cover.mix(3, 7), 1);
        Check.due("the 64th: the first", cover.mix(3, 8), 63);
        Check.due("32 rows", cover.mix(0, 7), 32);
        Check.due("row 0", cover.mix(0, 8), 0);
        Check.due("row 1", cover.mix(1, 8), 1);
        MixCover all = Check.planned("levels 2 2");
        for (int row = 0; row < 64; row++) {
            all.add(0);
        }
        Check.due("all 64", all.mix(0, 7), 64);
        all.tell(0, 1, NONE);
        Check.due("a free cell has it not", all.mix(0, 7), 63);
        Check.due("the first then", all.mix(0, 8), 1);
    }

    // Promise 7: "as many digits as COLUMNS; 9 for FREE", "NONE .. there are more digits"
    private static void asManyDigitsAsColumns() {
        int most = 9;
        for (int columns = 2; columns <= 8; columns++) {
            most = most * 10 + 9;
            int nines = most;
            String plan = "levels" + " 2".repeat(columns);
            MixCover cover = Check.planned(plan);
            Check.due("all free", cover.add(nines), 1);
            Check.due("all 0", cover.add(0), 2);
            Check.due("all 1", cover.add(nines / 9), 3);
            Check.dueRows("all free, 0, 1", cover, "9".repeat(columns) + "," + "0".repeat(columns) + "," + "1".repeat(columns));
            Twins.stay("one digit more", () -> Check.planned(plan), c -> c.add(nines + 1), NONE);
            Twins.stay("one digit more, a level", () -> Check.planned(plan), c -> c.add(nines + 1 + nines / 9), NONE);
            Check.due("hope: all free", cover.hope(nines) >= 0 ? 1 : 0, 1);
            Check.due("hope: one digit more", cover.hope(nines + 1), NONE);
            Check.due("lawful: all free", cover.lawful(nines), 1 << columns);
            Check.due("lawful: one digit more", cover.lawful(nines + 1), NONE);
        }
    }

    // Promise 7: "NONE .. if a digit is no LEVEL": the lowest LEVEL and the highest one, 9 and 8.
    private static void eachDigitOfEachColumn() {
        int[] levels = {2, 3, 4, 2, 3, 4, 2, 3};
        int weight = 1;
        for (int column = 7; column >= 0; column--) {
            for (int digit = 0; digit <= 9; digit++) {
                int digits = digit * weight;
                MixCover cover = Check.planned("levels 2 3 4 2 3 4 2 3");
                boolean can = digit < levels[column] || digit == 9;
                Check.due("add(" + digits + ")", cover.add(digits), can ? 1 : NONE);
                Check.due("rows by " + digits, cover.count(5), can ? 1 : 0);
                Check.due("its cell", cover.cell(0, column), !can ? -2 : digit == 9 ? NONE : digit);
                Check.due("lawful(" + digits + ")", cover.lawful(digits), !can ? NONE : digit == 9 ? levels[column] : 1);
                Check.due("hope(" + digits + ")", cover.hope(digits) == NONE ? 1 : 0, can ? 0 : 1);
            }
            weight *= 10;
        }
    }

    // Promise 7: "-2, and nothing happens: it can't be; NONE, and nothing happens .."
    private static void addThatIsRefused() {
        // What can't be: the never itself, and what both nevers forbid besides.
        for (int digits : new int[] {20, 21, 29, 11, 111, 911}) {
            Twins.stay("add(" + digits + ")", Samples::rich, c -> c.add(digits), -2);
            Twins.stay("add(" + digits + ") ahead of rows", Samples::bare, c -> c.add(digits), -2);
        }
        for (int digits : new int[] {MIN, -999, -1, 2, 8, 30, 80, 200, 800, 992, 1000, 1110, 9999, 10000, 1000000000, MAX}) {
            Twins.stay("add(" + digits + ")", Samples::rich, c -> c.add(digits), NONE);
            Twins.stay("add(" + digits + ") ahead of rows", Samples::bare, c -> c.add(digits), NONE);
        }
        // Of a row that can't be and has a digit that is no level besides: it is no row.
        Twins.stay("add(22)", Samples::rich, c -> c.add(22), NONE);
        // Free cells that can be filled in one way alone.
        MixCover narrow = Check.planned("levels 2 3 2;never 0.0&1.0;never 0.0&1.1");
        Check.due("one way", narrow.add(99), 1);
        narrow = Check.planned("levels 2 3 2;never 0.0&1.0;never 0.0&1.1;never 1.2&2.0;never 1.2&2.1");
        Check.due("no way", narrow.add(99), -2);
        Check.due("no way for all, but one besides", narrow.add(199), 1);
    }

    // "ROWS 0, 1, ..: 64 at most"; promise 7: "or 64 ROWS".
    private static void sixtyFourRowsByHand() {
        MixCover cover = Check.planned("levels 2 3 2;never 0.0&1.2");
        for (int n = 1; n <= 64; n++) {
            Check.due("row " + n, cover.add(n % 2 * 100), n);
        }
        Check.due("a 65th", cover.add(0), NONE);
        Check.due("rows", cover.count(5), 64);
        Check.due("acts", cover.count(10), 8);
        cover.drop(63);
        Check.due("a 64th again", cover.add(110), 64);
        Check.due("the last row's cell", cover.cell(63, 1), 1);
        for (int digits : new int[] {0, 110, 999, 21, -1, 2, 1000, MAX}) {
            Twins.stay("add(" + digits + ") to 64", () -> Samples.withRows(64), c -> c.add(digits), NONE);
        }
        Check.due("add to 63", Samples.withRows(63).add(0), 64);
        Twins.stay("add that can't be, to 63", () -> Samples.withRows(63), c -> c.add(21), -2);
    }

    // Promise 8: "-4, and nothing happens, without these."
    private static void tellBesideRowsColumnsLevels() {
        for (int row : new int[] {MIN, -2, -1, 3, 4, 63, 64, MAX}) {
            Twins.stay("tell(" + row + ", 0, 0)", Samples::rich, c -> c.tell(row, 0, 0), -4);
        }
        for (int column : new int[] {MIN, -2, -1, 3, 4, 8, MAX}) {
            Twins.stay("tell(0, " + column + ", 0)", Samples::rich, c -> c.tell(0, column, 0), -4);
            Twins.stay("tell(0, " + column + ", NONE)", Samples::rich, c -> c.tell(0, column, NONE), -4);
        }
        int[] levels = {2, 3, 2};
        for (int column = 0; column < 3; column++) {
            int at = column;
            for (int level : new int[] {MIN, -3, -2, levels[at], levels[at] + 1, 9, 32, MAX}) {
                Twins.stay("tell(0, " + at + ", " + level + ")", Samples::rich, c -> c.tell(0, at, level), -4);
            }
            for (int level = NONE; level < levels[at]; level++) {
                MixCover cover = Check.planned("levels 2 3 2");
                cover.add(level == 0 ? 111 : 0);
                Check.due("tell(0, " + at + ", " + level + ")", cover.tell(0, at, level), level == 0 ? 1 : 0);
                Check.due("it is so", cover.cell(0, at), level);
            }
        }
        Twins.stay("tell of no rows", Samples::bare, c -> c.tell(0, 0, 0), -4);
        Twins.stay("tell of row 64", () -> Samples.withRows(64), c -> c.tell(64, 0, NONE), -4);
        Check.due("tell of row 63", Samples.withRows(64).tell(63, 0, 0), 1);
        MixCover wide = Check.planned("levels 4 4 4 4 4 4 4 4");
        wide.add(0);
        Check.due("the last column's last level", wide.tell(0, 7, 3), 0);
        Check.due("one level more", wide.tell(0, 7, 4), -4);
        Check.due("one column more", wide.tell(0, 8, 3), -4);
        Check.dueRows("the last column", wide, "00000003");
    }

    // Promise 8: "-3, and nothing happens: it is so"
    private static void tellAsItIs() {
        // The rows are 110, 190, 001.
        int[][] cells = {{1, 1, 0}, {1, NONE, 0}, {0, 0, 1}};
        Check.dueRows("the sample", Samples.rich(), "110,190,001");
        for (int row = 0; row < 3; row++) {
            for (int column = 0; column < 3; column++) {
                int r = row;
                int k = column;
                Twins.stay("tell " + r + " " + k + " as it is", Samples::rich, c -> c.tell(r, k, cells[r][k]), -3);
            }
        }
    }

    // Promise 8: "-2, and nothing happens: the ROW can't be then."
    private static void tellWhatCantBe() {
        Twins.stay("tell(0, 2, 1): 111", Samples::rich, c -> c.tell(0, 2, 1), -2);
        Twins.stay("tell(2, 1, 2): 021", Samples::rich, c -> c.tell(2, 1, 2), -2);
        Twins.stay("tell(2, 1, 1): 011", Samples::rich, c -> c.tell(2, 1, 1), -2);
        // 1.0 alone is left to 0?1, so that it can't be told 0.0 when 1 is not 0.
        MixCover cover = Check.planned("levels 2 3 2;never 0.0&1.2;never 1.1&2.1");
        cover.add(991);
        Check.due("0.0, 1.0 is left", cover.tell(0, 0, 0), NONE);
        Check.due("1.1 can't be", cover.tell(0, 1, 1), -2);
        Check.due("1.2 can't be", cover.tell(0, 1, 2), -2);
        Check.due("1.0 can", cover.tell(0, 1, 0), NONE);
        MixCover closed = Check.planned("levels 2 3 2;never 0.0&1.0;never 0.0&1.1;never 1.2&2.1");
        closed.add(991);
        Check.due("0.0: no 1 is left", closed.tell(0, 0, 0), -2);
        Check.due("it is free still", closed.cell(0, 0), NONE);
        closed.tell(0, 2, 0);
        Check.due("0.0 then", closed.tell(0, 0, 0), NONE);
    }

    // Promise 9: "-2 without these."
    private static void cellBesideRowsColumns() {
        MixCover cover = Samples.withRows(64);
        Check.due("cell(0, 0)", cover.cell(0, 0), 1);
        Check.due("cell(63, 2)", cover.cell(63, 2), 0);
        Check.due("cell(62, 2)", cover.cell(62, 2), NONE);
        Check.due("cell(64, 2)", cover.cell(64, 2), -2);
        Check.due("cell(63, 3)", cover.cell(63, 3), -2);
        Check.due("cell(-1, 0)", cover.cell(-1, 0), -2);
        Check.due("cell(0, -1)", cover.cell(0, -1), -2);
        for (int beside : BESIDE) {
            Check.due("cell(" + beside + ", 0)", cover.cell(beside, 0), -2);
            Check.due("cell(0, " + beside + ")", cover.cell(0, beside), -2);
        }
        Check.due("cell of no rows", Samples.bare().cell(0, 0), -2);
        cover.drop(0);
        Check.due("cell(63, 0), one taken away", cover.cell(63, 0), -2);
        Check.due("cell(62, 0), one taken away", cover.cell(62, 0), 1);
    }

    // Promise 10: "NONE, and nothing happens, without it."
    private static void dropBesideRows() {
        for (int row : new int[] {MIN, -2, -1, 3, 4, 63, 64, MAX}) {
            Twins.stay("drop(" + row + ") of 3", Samples::rich, c -> c.drop(row), NONE);
        }
        Twins.stay("drop(0) of none", Samples::bare, c -> c.drop(0), NONE);
        Twins.stay("drop(-1) of none", Samples::bare, c -> c.drop(-1), NONE);
        Twins.stay("drop(64) of 64", () -> Samples.withRows(64), c -> c.drop(64), NONE);
    }

    private static void dropFirstAndLastOf64() {
        MixCover cover = Check.planned("levels 2 2");
        for (int row = 0; row < 64; row++) {
            cover.add(row == 0 ? 0 : row == 63 ? 11 : 99);
        }
        cover.result(0, 1);
        cover.result(63, 2);
        Check.due("the last", cover.drop(63), 63);
        Check.due("no failed one", cover.count(9), 0);
        Check.due("its mix is open", cover.mix(3, 7), 0);
        Check.due("undone", cover.undo(), 7);
        Check.due("the last is failed", cover.count(9), 1);
        Check.due("the first", cover.drop(0), 63);
        Check.due("no passed one", cover.count(8), 0);
        Check.due("its mix is open", cover.mix(0, 7), 0);
        Check.due("the last is nearer", cover.mix(3, 8), 62);
        Check.due("as it was told", cover.result(62, 2), -2);
        for (int left = 62; left >= 0; left--) {
            Check.due("drop(0)", cover.drop(0), left);
        }
        Check.due("drop of none", cover.drop(0), NONE);
        Check.due("all open", cover.open(), 4);
        Check.due("a row anew", cover.add(1), 1);
        Check.due("it is not told", cover.result(0, 0), -2);
    }

    // Promise 11: all, one and none.
    private static void openFromAllToNone() {
        MixCover cover = Check.planned("levels 2 2;never 0.1&1.1");
        Check.due("all that can be", cover.open(), 3);
        cover.add(99);
        cover.add(90);
        Check.due("free cells have none", cover.open(), 3);
        cover.add(0);
        cover.add(1);
        Check.due("one is left", cover.open(), 1);
        cover.add(10);
        Check.due("none is left", cover.open(), 0);
        cover.add(10);
        Check.due("none still", cover.open(), 0);
        cover.drop(5);
        Check.due("had by another", cover.open(), 0);
        cover.drop(4);
        Check.due("open again", cover.open(), 1);
    }

    // Promise 12: "-2: there are not so many. NONE .. for k below 0."
    private static void openMixBesideTheOpenOnes() {
        MixCover cover = Check.planned("levels 2 2;never 0.1&1.1");
        int[] open = {3, 2, 1, 0};
        int[] rows = {0, 1, 10};
        for (int n = 0; n <= 3; n++) {
            for (int k = 0; k < open[n]; k++) {
                Check.due("open mix " + k + " of " + open[n], cover.openMix(k), n + k);
            }
            Check.due("one more than " + open[n], cover.openMix(open[n]), -2);
            Check.due("two more than " + open[n], cover.openMix(open[n] + 1), -2);
            Check.due("openMix(MAX)", cover.openMix(MAX), -2);
            Check.due("openMix(-1)", cover.openMix(-1), NONE);
            Check.due("openMix(MIN)", cover.openMix(MIN), NONE);
            if (n < 3) {
                cover.add(rows[n]);
            }
        }
        MixCover most = Check.planned("levels 2 2 3 4 4 4 4;strength 3");
        Check.due("the last of 1196", most.openMix(1195), 1195);
        Check.due("one more", most.openMix(1196), -2);
    }

    // Promise 13: "NONE .. for other digits."
    private static void hopeOfOtherDigits() {
        MixCover cover = Samples.rich();
        for (int digits : new int[] {MIN, -1, 2, 8, 30, 80, 200, 800, 1000, 9999, MAX}) {
            Check.due("hope(" + digits + ")", cover.hope(digits), NONE);
            Check.due("lawful(" + digits + ")", cover.lawful(digits), NONE);
        }
        Check.due("hope of what can't be", cover.hope(21), 0);
        Check.due("lawful of what can't be", cover.lawful(21), 0);
        MixCover full = Samples.withRows(64);
        Check.due("hope with 64 rows", full.hope(0), 3 * 3600);
    }

    // HOPE: "60 for each of their COLUMNS where it has theirs, else 60 by how many LEVELS that has"
    private static void hopeOfAllAndOfNothing() {
        for (int t = 1; t <= 3; t++) {
            MixCover cover = Check.planned("levels 2 3 4;strength " + t);
            // All free: 60 by its levels for each column, so that each set of columns has 60 to the T.
            long sets = t == 2 || t == 1 ? 3 : 1;
            long sixties = t == 1 ? 60 : t == 2 ? 3600 : 216000;
            Check.due("all free, T " + t, cover.hope(999), sets * sixties);
            Check.due("whole, T " + t, cover.hope(123), sets * sixties);
            Check.due("2.3 told, T " + t, cover.hope(993), sets * sixties);
            cover.add(123);
            Check.due("whole and had, T " + t, cover.hope(123), 0);
        }
        MixCover one = Check.planned("levels 2 3 4;strength 1");
        one.add(999);
        one.add(99);
        // 0.1 with 30, or 60 by a row that has it.
        Check.due("less open", one.hope(999), 30 + 60 + 60);
        Check.due("it is had", one.hope(199), 60 + 60 + 60);
        Check.due("another level is had", one.hope(99), 60 + 60);
        MixCover none = Check.planned("levels 2 2;strength 1");
        none.add(0);
        none.add(11);
        Check.due("nothing open", none.hope(99), 0);
        Check.due("nothing open, whole", none.hope(0), 0);
    }

    // Each promise: "without a PLAN".
    private static void withoutAPlan() {
        String[] faults = {null, "", "levels 2", "levels 4 4 4 4 4 4;strength 3", "levels 2 2;never 0.0;never 0.1"};
        for (String text : faults) {
            java.util.function.Supplier<MixCover> made = () -> {
                MixCover cover = Samples.noPlan();
                if (text != null) {
                    Check.plan(cover, text);
                    Check.feed(cover, "levels 2 2 3");
                }
                return cover;
            };
            String by = " without a plan, behind \"" + text + "\"";
            for (int what = 0; what <= 10; what++) {
                Check.due("count(" + what + ")" + by, made.get().count(what), 0);
            }
            Check.due("count(11)" + by, made.get().count(11), 31415);
            Check.due("count(12)" + by, made.get().count(12), 12);
            Check.due("count(13)" + by, made.get().count(13), NONE);
            Twins.stay("levels" + by, made, c -> c.levels(0), NONE);
            Twins.stay("mix" + by, made, c -> c.mix(0, 7), NONE);
            Twins.stay("add" + by, made, c -> c.add(0), NONE);
            Twins.stay("tell" + by, made, c -> c.tell(0, 0, 0), -4);
            Twins.stay("cell" + by, made, c -> c.cell(0, 0), -2);
            Twins.stay("drop" + by, made, c -> c.drop(0), NONE);
            Twins.stay("open" + by, made, c -> c.open(), NONE);
            Twins.stay("openMix" + by, made, c -> c.openMix(0), NONE);
            Twins.stay("hope" + by, made, c -> c.hope(0), NONE);
            Twins.stay("greed" + by, made, c -> c.greed(), NONE);
            Twins.stay("fill" + by, made, c -> c.fill(), NONE);
            Twins.stay("field" + by, made, c -> c.field(), NONE);
            Twins.stay("widen" + by, made, c -> c.widen(2), NONE);
            Twins.stay("settle" + by, made, c -> c.settle(), NONE);
            Twins.stay("thin" + by, made, c -> c.thin(), NONE);
            Twins.stay("order" + by, made, c -> c.order(), NONE);
            Twins.stay("drawn" + by, made, c -> c.drawn(), NONE);
            Twins.stay("draws below 0" + by, made, c -> c.draws(-1), NONE);
            Twins.stay("gain" + by, made, c -> c.gain(0), NONE);
            Twins.stay("least" + by, made, c -> c.least(), NONE);
            Twins.stay("lawful" + by, made, c -> c.lawful(0), NONE);
            Twins.stay("result" + by, made, c -> c.result(0, 1), NONE);
            Twins.stay("result 0" + by, made, c -> c.result(0, 0), NONE);
            Twins.stay("guilty" + by, made, c -> c.guilty(1, NONE), NONE);
            Twins.stay("ask" + by, made, c -> c.ask(0), NONE);
            Twins.stay("undo" + by, made, c -> c.undo(), NONE);
            Twins.stay("keep" + by, made, c -> c.keep(0), NONE);
            Twins.stay("back" + by, made, c -> c.back(1), -2);
            Check.due("draws" + by, made.get().draws(7), 31415);
        }
    }
}
