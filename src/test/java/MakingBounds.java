import java.math.BigInteger;
import java.util.function.Supplier;

/** The bounds of rows by greed, by a field, by draws, and of what is done with all rows (part II, promises 14 to 22). */
public final class MakingBounds {
    private static final int NONE = -1;
    private static final int MIN = Integer.MIN_VALUE;
    private static final int MAX = Integer.MAX_VALUE;

    private MakingBounds() {
    }

    public static void main(String[] args) {
        greedTillNothingIsOpen();
        greedTo64();
        greedOfTheOnlyLawfulRow();
        fillWithNothingOpen();
        fillTill64();
        fillIsOneAct();
        theLeastField();
        fieldOf64RowsAtMost();
        fieldRowsOneByOne();
        fieldOfRowsThatCantBe();
        fieldInPlaceOf64();
        widenByLevels();
        widenToEightColumns();
        widenUpTo1200();
        widenLeavesRowsAndNevers();
        settleNothing();
        settleAllOf64();
        settleByWhatCanBe();
        thinNothing();
        thinAllAlike();
        thinFromTheLastDown();
        orderNothing();
        orderOf64();
        drawnTo64();
        drawsOfOneLevel();
        drawsBelow0();
        drawsWrapAround();
        Check.endOf("MakingBounds");
    }

    private static MixCover rowsOf(String plan, int rows, int... digits) {
        MixCover cover = Check.planned(plan);
        for (int row = 0; row < rows; row++) {
            cover.add(digits[row % digits.length]);
        }
        return cover;
    }

    /** 64 rows, and nothing is open. */
    private static MixCover fullAndClosed() {
        MixCover cover = Samples.withRows(0);
        Check.plan(cover, "levels 2 2;strength 1");
        for (int row = 0; row < 64; row++) {
            cover.add(row % 2 * 11);
        }
        cover.result(2, 2);
        return cover;
    }

    // Promise 14: "-2, and nothing happens: nothing is OPEN"
    private static void greedTillNothingIsOpen() {
        Twins.stay("greed with nothing open", Samples::closed, c -> c.greed(), -2);
        MixCover cover = rowsOf("levels 2 2;never 0.1&1.1", 2, 0, 1);
        Check.due("greed with one open", cover.greed(), 1);
        Check.dueRows("greed with one open", cover, "00,01,10");
        Check.due("greed with none open", cover.greed(), -2);
        Check.due("rows", cover.count(5), 3);
        Check.due("acts", cover.count(10), 3);
        cover.drop(2);
        Check.due("greed, one open again", cover.greed(), 1);
    }

    // Promise 14: "NONE .. with 64 ROWS (ahead of -2)"
    private static void greedTo64() {
        MixCover cover = Samples.withRows(63);
        Check.due("greed with 63", cover.greed() > 0 ? 1 : 0, 1);
        Check.due("rows", cover.count(5), 64);
        Check.due("open still, behind 64", cover.open() > 0 ? 1 : 0, 1);
        Check.due("greed with 64", cover.greed(), NONE);
        Twins.stay("greed with 64", () -> Samples.withRows(64), c -> c.greed(), NONE);
        Twins.stay("greed with 64 and nothing open", MakingBounds::fullAndClosed, c -> c.greed(), NONE);
        MixCover less = fullAndClosed();
        less.drop(63);
        Check.due("greed with 63 and nothing open", less.greed(), -2);
    }

    private static void greedOfTheOnlyLawfulRow() {
        MixCover cover = Check.planned("levels 2 3;never 0.0;never 1.0;never 1.2;strength 1");
        Check.due("greed", cover.greed(), 2);
        Check.dueRows("greed", cover, "11");
        Check.due("then", cover.greed(), -2);
        MixCover three = Check.planned("levels 4 4 4;strength 3;never 0.3");
        three.add(0);
        Check.due("one that differs", three.greed(), 1);
        // 0.0 has 15 open mixes, 0.1 has 16; then 1 and 2 are alike.
        Check.dueRows("one that differs", three, "000,100");
    }

    // Promise 15: "(0, and nothing happens, if none does)": nothing is open, or 64 rows.
    private static void fillWithNothingOpen() {
        Twins.stay("fill with nothing open", Samples::closed, c -> c.fill(), 0);
        Twins.stay("fill with 64", () -> Samples.withRows(64), c -> c.fill(), 0);
        Twins.stay("fill with 64 and nothing open", MakingBounds::fullAndClosed, c -> c.fill(), 0);
        MixCover cover = rowsOf("levels 2 2;never 0.1&1.1", 2, 0, 1);
        Check.due("fill with one open", cover.fill(), 1);
        Check.due("acts", cover.count(10), 3);
        Check.due("fill with none open", cover.fill(), 0);
        Check.due("acts as before", cover.count(10), 3);
    }

    // TO FILL: "till nothing is OPEN (or there are 64 ROWS)"
    private static void fillTill64() {
        int[] came = {4, 4, 3, 2, 1, 0};
        int[] open = {0, 0, 1, 2, 3, 4};
        for (int before = 59; before <= 64; before++) {
            MixCover cover = rowsOf("levels 2 2", before, 99);
            Check.due("fill behind " + before, cover.fill(), came[before - 59]);
            Check.due("rows behind " + before, cover.count(5), Math.min(64, before + 4));
            Check.due("open behind " + before, cover.open(), open[before - 59]);
        }
        MixCover enough = Check.planned("levels 4 4 4 4 4;strength 3");
        Check.due("64 rows are enough", enough.fill(), 64);
        Check.due("nothing open", enough.open(), 0);
        MixCover many = Check.planned("levels 2 2 3 4 4 4 4;strength 3");
        Check.due("1196 mixes", many.count(2), 1196);
        Check.due("64 rows of more", many.fill(), 64);
        Check.due("open still", many.open() > 0 ? 1 : 0, 1);
        Check.due("all are whole", many.count(6), 64);
        Check.due("undone", many.undo(), 0);
        Check.due("no rows", many.count(5), 0);
        Check.due("all open", many.open(), 1196);
    }

    private static void fillIsOneAct() {
        MixCover cover = rowsOf("levels 3 3 3", 9, 999);
        Check.due("acts", cover.count(10), 8);
        Check.due("fill", cover.fill() >= 9 ? 1 : 0, 1);
        Check.due("acts then", cover.count(10), 8);
        Check.due("undone", cover.undo(), 7);
        Check.due("rows ahead of it", cover.count(5), 9);
        Check.due("undone again", cover.undo(), 6);
        Check.due("rows then", cover.count(5), 8);
    }

    // BY A FIELD: "the least of 2, 3, 4, 5, 7 that is as great as each COLUMN has LEVELS .., and 1 less than .. COLUMNS"
    private static void theLeastField() {
        String[] plans = {"2 2", "2 2 2", "2 2 2 2", "3 2", "2 3", "3 3 3 3", "3 3 3 3 2", "2 2 2 2 2", "4 2", "2 2 4",
            "4 4 4 4 4", "2 2 2 2 2 2", "4 4 4 4 4 4", "2 2 2 2 2 2 2", "2 2 2 2 2 2 2 2", "4 4 4 4 4 4 4 4"};
        int[] fields = {2, 2, 3, 3, 3, 3, 4, 4, 4, 4, 4, 5, 5, 7, 7, 7};
        for (int i = 0; i < plans.length; i++) {
            for (int t = 1; t <= 2; t++) {
                MixCover cover = Check.planned("levels " + plans[i] + ";strength " + t);
                int q = fields[i];
                Check.due("field of " + plans[i], cover.field(), q);
                Check.due("its rows", cover.count(5), t == 1 ? q : q * q);
                Check.due("nothing is open", cover.open(), 0);
            }
        }
    }

    // BY A FIELD: "it would be more than 64 ROWS"
    private static void fieldOf64RowsAtMost() {
        String[] fit = {"2 2 2", "2 2 2 2", "3 3 3 3", "4 4 4", "2 2 2 2 2", "4 4 4 4 4"};
        int[] rows = {8, 27, 27, 64, 64, 64};
        for (int i = 0; i < fit.length; i++) {
            MixCover cover = Check.planned("levels " + fit[i] + ";strength 3");
            Check.due("field of " + fit[i], cover.field(), rows[i] == 8 ? 2 : rows[i] == 27 ? 3 : 4);
            Check.due("its rows", cover.count(5), rows[i]);
            Check.due("nothing is open", cover.open(), 0);
            Check.due("acts", cover.count(10), 1);
        }
        String[] many = {"2 2 2 2 2 2", "2 2 2 2 2 2 2", "2 2 2 2 2 2 2 2"};
        for (String plan : many) {
            Supplier<MixCover> made = () -> {
                MixCover cover = Samples.rich();
                Check.plan(cover, "levels " + plan + ";strength 3");
                cover.add(9);
                return cover;
            };
            Twins.stay("field of " + plan, made, c -> c.field(), -2);
        }
        MixCover full = Check.planned("levels 4 4 4;strength 3");
        full.field();
        Check.due("a 65th by hand", full.add(0), NONE);
        Check.due("a 65th by greed", full.greed(), NONE);
        Check.due("a 65th by draws", full.drawn(), NONE);
        Check.due("a field again", full.field(), 4);
    }

    private static int times(int a, int b, int q) {
        int[][] four = {{0, 0, 0, 0}, {0, 1, 2, 3}, {0, 2, 3, 1}, {0, 3, 1, 2}};
        return q == 4 ? four[a][b] : a * b % q;
    }

    private static int plus(int a, int b, int q) {
        return q == 4 ? a ^ b : (a + b) % q;
    }

    // "by c0, then c1, .. (c0 the slowest) .. in COLUMN Q the last c; a value that is no LEVEL there: FREE."
    private static void fieldRowsOneByOne() {
        String[] plans = {"2 2", "2 2 2", "3 2 3", "2 2 3 2", "3 3 3 3", "4 3 2", "4 4 4 4 4", "2 3 4 2 3", "2 3 4 4 4 4",
            "3 3 3 3 3 3 3", "4 4 4 4 4 4 4 4", "2 3 4 2 3 4 2 3"};
        int[] fields = {2, 2, 3, 3, 3, 4, 4, 4, 5, 7, 7, 7};
        for (int i = 0; i < plans.length; i++) {
            for (int t = 1; t <= 3; t++) {
                int q = fields[i];
                int rows = t == 1 ? q : t == 2 ? q * q : q * q * q;
                MixCover cover = new MixCover();
                if (Check.plan(cover, "levels " + plans[i] + ";strength " + t) >= 0 && rows <= 64) {
                    Check.due("field of " + plans[i], cover.field(), q);
                    for (int row = 0; row < rows; row++) {
                        dueFieldRow(cover, row, t, q);
                    }
                }
            }
        }
    }

    private static void dueFieldRow(MixCover cover, int row, int t, int q) {
        int[] c = t == 1 ? new int[] {row} : t == 2 ? new int[] {row / q, row % q} : new int[] {row / q / q, row / q % q, row % q};
        for (int column = 0; column < cover.count(0); column++) {
            int value = c[0];
            int power = 1;
            for (int j = 1; j < t; j++) {
                power = times(power, column % q, q);
                value = plus(value, times(c[j], power, q), q);
            }
            if (column == q) {
                value = c[t - 1];
            }
            Check.due("field of " + q + ", row " + row + ", column " + column, cover.cell(row, column),
                    value < cover.levels(column) ? value : NONE);
        }
    }

    // BY A FIELD: "or one of them can't be"
    private static void fieldOfRowsThatCantBe() {
        String[] fails = {"levels 2 2;never 0.0&1.0", "levels 2 2;never 0.1&1.1", "levels 3 2;strength 1;never 0.2",
            "levels 3 2;strength 1;never 0.2&1.0;never 0.2&1.1", "levels 2 2 2;never 0.1&1.0&2.1",
            "levels 4 4 4;strength 3;never 0.3&1.3&2.3"};
        for (String plan : fails) {
            Supplier<MixCover> made = () -> {
                MixCover cover = Samples.rich();
                Check.plan(cover, plan);
                cover.drawn();
                cover.result(0, 2);
                return cover;
            };
            Twins.stay("field of \"" + plan + "\"", made, c -> c.field(), -2);
        }
        // What is FREE can be filled in one way, or no row has the never.
        Check.due("one way", Check.planned("levels 3 2;strength 1;never 0.2&1.0").field(), 3);
        MixCover cover = Check.planned("levels 2 2 2;never 0.1&1.1&2.1");
        Check.due("none has it", cover.field(), 2);
        Check.dueRows("none has it", cover, "000,011,110,101");
    }

    // "In place of all ROWS"
    private static void fieldInPlaceOf64() {
        MixCover cover = rowsOf("levels 2 2", 64, 0, 1);
        cover.result(0, 1);
        cover.result(63, 2);
        Check.due("field", cover.field(), 2);
        Check.dueRows("field", cover, "00,01,11,10");
        Check.due("none is told", cover.count(8) + cover.count(9), 0);
        Check.due("undone", cover.undo(), 7);
        Check.due("64 again", cover.count(5), 64);
        Check.due("told again", cover.count(8) + cover.count(9), 2);
        Check.due("had again", cover.mix(0, 7), 32);
    }

    // Promise 17: "of some LEVELS (2 to 4) .. NONE, and nothing happens, without these"
    private static void widenByLevels() {
        for (int levels : new int[] {MIN, -4, -2, -1, 0, 1, 5, 6, 9, 34, MAX}) {
            Twins.stay("widen(" + levels + ")", Samples::rich, c -> c.widen(levels), NONE);
            Twins.stay("widen(" + levels + ") ahead of rows", Samples::bare, c -> c.widen(levels), NONE);
        }
        for (int levels = 2; levels <= 4; levels++) {
            MixCover cover = Samples.rich();
            int acts = cover.count(10);
            Check.due("widen(" + levels + ")", cover.widen(levels), 16 + 7 * levels);
            Check.due("columns", cover.count(0), 4);
            Check.due("its levels", cover.levels(3), levels);
            Check.due("acts", cover.count(10), acts + 1);
            Check.due("its last level", cover.tell(0, 3, levels - 1), NONE);
            Check.due("one level more", cover.tell(0, 3, levels), -4);
        }
    }

    // Promise 17: "with 8 COLUMNS"
    private static void widenToEightColumns() {
        MixCover cover = Check.planned("levels 2 2");
        for (int columns = 3; columns <= 8; columns++) {
            Check.due("widen to " + columns, cover.widen(2), columns * (columns - 1) / 2 * 4);
        }
        Check.due("columns", cover.count(0), 8);
        Check.due("to 9", cover.widen(2), NONE);
        Check.due("columns still", cover.count(0), 8);
        Supplier<MixCover> made = () -> {
            MixCover eight = Samples.rich();
            Check.plan(eight, "levels 2 2 2 2 2 2 2;strength 1");
            eight.add(110);
            eight.widen(3);
            return eight;
        };
        for (int levels = 2; levels <= 4; levels++) {
            int by = levels;
            Twins.stay("widen(" + by + ") of eight", made, c -> c.widen(by), NONE);
        }
        Check.due("undone to seven", cover.undo(), 5);
        Check.due("to eight again", cover.widen(4), 21 * 4 + 7 * 8);
    }

    // Promise 17: "or if there would be more than 1200 MIXES": 1196 and 1213 are the nearest that there can be.
    private static void widenUpTo1200() {
        Check.due("1196", Check.planned("levels 2 2 3 4 4 4;strength 3").widen(4), 1196);
        Check.due("1196 by 3", Check.planned("levels 2 2 4 4 4 4;strength 3").widen(3), 1196);
        Check.due("1196 by 2", Check.planned("levels 2 3 4 4 4 4;strength 3").widen(2), 1196);
        String[] plans = {"levels 2 3 3 3 4 4", "levels 2 3 3 4 4 4", "levels 3 3 3 4 4 4", "levels 4 4 4 4 4 4"};
        int[] by = {4, 3, 2, 2};
        for (int i = 0; i < 3; i++) {
            int levels = by[i];
            String plan = plans[i] + ";strength 3;never 0.0";
            Supplier<MixCover> made = () -> {
                MixCover cover = Samples.rich();
                Check.plan(cover, plan);
                cover.add(199999);
                return cover;
            };
            Twins.stay("1213 by " + levels, made, c -> c.widen(levels), NONE);
        }
        MixCover most = Check.planned("levels 2 2 3 4 4 4 4;strength 3");
        Check.due("one more", most.widen(2), NONE);
        Check.due("the mixes stay", most.count(2), 1196);
        Check.due("the columns stay", most.count(0), 7);
        Check.due("the last mix stays", most.mix(1195, 2), 6);
        Check.due("no bound by T 2", Check.planned("levels 4 4 4 4 4 4 4").widen(4), 448);
    }

    // WIDENED: "FREE in all ROWS; NEVERS stay"
    private static void widenLeavesRowsAndNevers() {
        MixCover cover = Samples.withRows(64);
        int free = cover.count(7);
        Check.due("widen 64 rows", cover.widen(2), 16 + 14);
        Check.due("free cells", cover.count(7), free + 64);
        Check.due("no row is whole", cover.count(6), 0);
        Check.due("passed", cover.count(8), 1);
        Check.due("failed", cover.count(9), 1);
        Check.due("nevers", cover.count(4), 2);
        Check.due("the last row's new cell", cover.cell(63, 3), NONE);
        cover.drop(0);
        Check.due("a never binds still", cover.add(209), -2);
        Check.due("what it leaves", cover.add(109), 64);
        MixCover none = Check.planned("levels 2 2");
        Check.due("no rows", none.widen(2), 12);
        Check.due("undone", none.undo(), 0);
        Check.due("columns", none.count(0), 2);
    }

    // Promise 18: "how many CELLS were FREE": none. It is an act, as only fill() says that nothing happens then.
    private static void settleNothing() {
        MixCover none = Check.planned("levels 2 2");
        Check.due("settle no rows", none.settle(), 0);
        Check.due("acts", none.count(10), 1);
        MixCover whole = rowsOf("levels 2 2", 64, 0, 11);
        Check.due("settle whole rows", whole.settle(), 0);
        Check.due("whole", whole.count(6), 64);
        Check.due("undone", whole.undo(), 7);
        Check.due("rows", whole.count(5), 64);
    }

    private static void settleAllOf64() {
        MixCover cover = rowsOf("levels 2 3 2", 64, 999);
        Check.due("settle", cover.settle(), 192);
        Check.due("free cells", cover.count(7), 0);
        Check.due("whole rows", cover.count(6), 64);
        Check.due("again", cover.settle(), 0);
        Check.due("one free cell", rowsOf("levels 2 3 2", 1, 191).settle(), 1);
    }

    // SETTLED: "of the LEVELS by which it CAN be .., of like ones the least"
    private static void settleByWhatCanBe() {
        MixCover cover = Check.planned("levels 2 3;never 0.0;never 1.0;never 1.1");
        cover.add(99);
        Check.due("settle", cover.settle(), 2);
        Check.dueRows("the only one", cover, "12");
        MixCover like = rowsOf("levels 2 3", 2, 99);
        like.settle();
        // 0.0 as of like ones the least, then 1.0; of the second 0.0 again (no mix is whole by it), then 1.1.
        Check.dueRows("of like ones the least", like, "00,01");
        MixCover most = Check.planned("levels 2 3");
        most.add(0);
        most.add(90);
        most.settle();
        Check.dueRows("the most open ones more", most, "00,10");
    }

    // Promise 19: none is taken away; it is an act all the same.
    private static void thinNothing() {
        MixCover none = Check.planned("levels 2 2");
        Check.due("thin no rows", none.thin(), 0);
        Check.due("acts", none.count(10), 1);
        MixCover needed = rowsOf("levels 2 2", 4, 0, 1, 10, 11);
        Check.due("thin what is needed", needed.thin(), 0);
        Check.due("rows", needed.count(5), 4);
        Check.due("acts then", needed.count(10), 5);
        MixCover one = rowsOf("levels 2 2", 1, 0);
        Check.due("the only row", one.thin(), 0);
        MixCover free = rowsOf("levels 2 2", 1, 9);
        Check.due("the only row, which has no mix", free.thin(), 1);
    }

    private static void thinAllAlike() {
        MixCover cover = rowsOf("levels 2 2", 64, 10);
        cover.result(0, 2);
        cover.result(63, 1);
        Check.due("thin 64 alike", cover.thin(), 63);
        Check.dueRows("the first stays", cover, "10");
        Check.due("it failed", cover.count(9), 1);
        Check.due("it alone", cover.mix(2, 7), 1);
        Check.due("undone", cover.undo(), 7);
        Check.due("64 again", cover.count(5), 64);
        MixCover free = rowsOf("levels 2 2", 64, 99);
        Check.due("thin 64 that have no mix", free.thin(), 64);
        Check.due("no rows", free.count(5), 0);
    }

    // THINNED: "of ROWS from the last one down .. had by others that are left"
    private static void thinFromTheLastDown() {
        // Each has 0.0 1.0; 000 and 001 have all of 009 and each other's but for 2: the last that can go, goes.
        MixCover cover = rowsOf("levels 2 2 2", 4, 9, 0, 1, 9);
        Check.due("thin", cover.thin(), 2);
        Check.dueRows("thin", cover, "000,001");
        MixCover pair = rowsOf("levels 2 2 2", 3, 0, 90, 9);
        Check.due("what the first has", pair.thin(), 2);
        Check.dueRows("what the first has", pair, "000");
        MixCover chain = rowsOf("levels 2 2 2", 3, 9, 900, 0);
        // 000 goes not, as (0,2) 00 is its own; then 900 and 009.
        Check.due("the last is needed", chain.thin(), 2);
        Check.dueRows("the last is needed", chain, "000");
    }

    // Promise 20: "how many ROWS have a MIX that none ahead of them has"
    private static void orderNothing() {
        MixCover none = Check.planned("levels 2 2");
        Check.due("order no rows", none.order(), 0);
        Check.due("acts", none.count(10), 1);
        MixCover one = rowsOf("levels 2 2", 1, 0);
        Check.due("order one", one.order(), 1);
        MixCover free = rowsOf("levels 2 2", 3, 99, 9, 90);
        Check.due("order of rows without mixes", free.order(), 0);
        Check.dueRows("of like ones the first", free, "99,09,90");
        Check.due("acts", free.count(10), 4);
    }

    private static void orderOf64() {
        MixCover cover = rowsOf("levels 2 2", 64, 99, 10, 10);
        cover.tell(63, 0, 0);
        cover.tell(63, 1, 1);
        cover.result(63, 2);
        cover.result(1, 1);
        Check.due("order", cover.order(), 2);
        Check.due("the first with a mix", cover.cell(0, 0), 1);
        Check.due("the last comes second", cover.cell(1, 1), 1);
        Check.due("it failed", cover.result(1, 2), -2);
        Check.due("the first passed", cover.result(0, 1), -2);
        Check.due("the others follow in their order", cover.cell(2, 0), NONE);
        Check.due("the others follow in their order", cover.cell(3, 0), 1);
        Check.due("rows", cover.count(5), 64);
        Check.due("first by row 0", cover.mix(2, 8), 0);
        Check.due("first by row 1", cover.mix(1, 8), 1);
    }

    // Promise 21: "NONE, and nothing happens .. with 64 ROWS"
    private static void drawnTo64() {
        MixCover cover = Samples.withRows(63);
        Check.due("drawn with 63", cover.drawn() >= 0 ? 1 : 0, 1);
        Check.due("rows", cover.count(5), 64);
        Twins.stay("drawn with 64", () -> Samples.withRows(64), c -> c.drawn(), NONE);
        Twins.stay("drawn with 64 and nothing open", MakingBounds::fullAndClosed, c -> c.drawn(), NONE);
        MixCover closed = Samples.closed();
        int rows = closed.count(5);
        Check.due("drawn with nothing open", closed.drawn() >= 0 ? 1 : 0, 1);
        Check.due("rows then", closed.count(5), rows + 1);
    }

    // DRAWN: "by a DRAW of as many as there are by which it CAN be": of one, too.
    private static void drawsOfOneLevel() {
        MixCover cover = Check.planned("levels 2 2 4;never 0.0;never 1.1;never 2.0;never 2.1;never 2.2");
        cover.draws(1);
        Check.due("the only row", cover.drawn(), 103);
        Check.due("three draws all the same", cover.count(11), after(after(after(1))));
        Check.due("again", cover.drawn(), 103);
        Check.due("three more", cover.count(11), after(after(after(after(after(after(1)))))));
    }

    private static int after(int x) {
        return BigInteger.valueOf(x).multiply(BigInteger.valueOf(1103515245)).add(BigInteger.valueOf(12345))
                .mod(BigInteger.ONE.shiftLeft(31)).intValue();
    }

    // Promise 22: "NONE, and nothing happens, below 0."
    private static void drawsBelow0() {
        for (int x : new int[] {-1, -2, -65536, MIN + 1, MIN}) {
            Twins.stay("draws(" + x + ")", Samples::rich, c -> c.draws(x), NONE);
            Twins.stay("draws(" + x + ") without a plan", Samples::noPlan, c -> c.draws(x), NONE);
        }
        MixCover cover = new MixCover();
        Check.due("x at first", cover.count(11), 0);
        Check.due("draws(0)", cover.draws(0), 0);
        Check.due("draws(MAX)", cover.draws(MAX), 0);
        Check.due("x", cover.count(11), MAX);
        Check.due("draws(0) again", cover.draws(0), MAX);
        Check.due("x again", cover.count(11), 0);
        Check.due("draws is no act", cover.count(10), 0);
    }

    // DRAWS: "x .. becomes x * 1103515245 + 12345, of 2147483648 the rest; a DRAW of k is x / 65536, of k the rest"
    private static void drawsWrapAround() {
        int[] starts = {0, 1, 2, 3, 65535, 65536, 131071, 1073741823, 1073741824, 1103515245, 2146435072, MAX - 65536,
            MAX - 2, MAX - 1, MAX};
        int[] levels = {2, 3, 4, 2, 3, 4, 2, 3};
        for (int start : starts) {
            MixCover cover = Check.planned("levels 2 3 4 2 3 4 2 3");
            cover.draws(start);
            int x = start;
            for (int row = 1; row <= 20; row++) {
                int digits = 0;
                for (int column = 0; column < 8; column++) {
                    x = after(x);
                    digits = digits * 10 + x / 65536 % levels[column];
                }
                Check.due("row " + row + " drawn from x " + start, cover.drawn(), digits);
                Check.due("x then", cover.count(11), x);
            }
        }
    }
}
