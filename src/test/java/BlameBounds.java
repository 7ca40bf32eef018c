import java.util.ArrayList;
import java.util.List;

/** The bounds of what is asked of rows, of results, acts, shelves and counts (promises 23 to 32). */
public final class BlameBounds {
    private static final int NONE = -1;
    private static final int MIN = Integer.MIN_VALUE;
    private static final int MAX = Integer.MAX_VALUE;
    private static final int[] BESIDE = {MIN, MIN + 1, -65537, -9, -3, -2, -1, 64, 1000, 65536, MAX - 1, MAX};

    private BlameBounds() {
    }

    public static void main(String[] args) {
        gainBesideRows();
        gainOfFirstAndLast();
        leastOfOneAndOfAll();
        lawfulFromNoneToAll();
        resultBesideRowsAndHows();
        resultAsItIs();
        resultOf64();
        guiltyWithNoneFailed();
        guiltyOfSoManyColumns();
        guiltyBesideTheGuiltyOnes();
        guiltyOfNoneAndOfAll();
        askWithNothingToAsk();
        askBesideWhats();
        askOfLikeOnes();
        undoOfEightActs();
        undoOfEachActInTurn();
        undoThenActsAnew();
        undoLeavesTapeAndShelves();
        keepBesideShelves();
        backBesideShelves();
        backOfNothingKept();
        shelvesAreTheirOwn();
        backLeavesTheTape();
        countBesideWhats();
        countsFromNoneToAll();
        fiveHundredAndTwelveCalls();
        Check.endOf("BlameBounds");
    }

    private static MixCover rowsOf(String plan, int... digits) {
        MixCover cover = Check.planned(plan);
        for (int row : digits) {
            cover.add(row);
        }
        return cover;
    }

    // Promise 23: "NONE without it."
    private static void gainBesideRows() {
        MixCover cover = Samples.rich();
        Check.due("gain(2) of 3", cover.gain(2), 3);
        Check.due("gain(3) of 3", cover.gain(3), NONE);
        for (int row : BESIDE) {
            Check.due("gain(" + row + ")", cover.gain(row), NONE);
        }
        Check.due("gain of no rows", Samples.bare().gain(0), NONE);
        MixCover full = Samples.withRows(64);
        Check.due("gain(63) of 64", full.gain(63), 0);
        Check.due("gain(64) of 64", full.gain(64), NONE);
    }

    // GAIN: "how many MIXES it has that no ROW ahead of it has"
    private static void gainOfFirstAndLast() {
        MixCover cover = Check.planned("levels 2 2 2");
        for (int row = 0; row < 63; row++) {
            cover.add(row == 0 ? 0 : row == 31 ? 110 : 9);
        }
        cover.add(111);
        Check.due("the first", cover.gain(0), 3);
        Check.due("between", cover.gain(30), 0);
        Check.due("between, one of its own", cover.gain(31), 3);
        Check.due("the last", cover.gain(63), 2);
        cover.drop(31);
        Check.due("the last then", cover.gain(62), 3);
        MixCover most = rowsOf("levels 2 2 2 2 2 2 2 2;strength 3", 0);
        Check.due("all 56", most.gain(0), 56);
        Check.due("no mix", rowsOf("levels 2 2", 90).gain(0), 0);
    }

    // LEAST: "of all sets of T COLUMNS the most MIXES that CAN be"
    private static void leastOfOneAndOfAll() {
        Check.due("one lawful row", Check.planned("levels 2 2;never 0.0;never 1.1").least(), 1);
        Check.due("one lawful row, T 1", Check.planned("levels 2 2;never 0.0;never 1.1;strength 1").least(), 1);
        Check.due("the first set", Check.planned("levels 4 4 2").least(), 16);
        Check.due("the last set", Check.planned("levels 2 4 4").least(), 16);
        Check.due("the middle set", Check.planned("levels 4 2 4").least(), 16);
        Check.due("64", Check.planned("levels 4 4 4;strength 3").least(), 64);
        Check.due("all but one", Check.planned("levels 4 4 4;strength 3;never 0.0&1.0&2.0").least(), 63);
        Check.due("forbidden besides", Check.planned("levels 2 2 2;never 0.0&2.0;never 1.0&2.1").least(), 3);
    }

    // Promise 25: from none to all.
    private static void lawfulFromNoneToAll() {
        MixCover cover = Samples.rich();
        // Of 12 two have 0.0 1.2, two have 1.1 2.1.
        Check.due("all", cover.lawful(999), 8);
        Check.due("whole", cover.lawful(0), 1);
        Check.due("none", cover.lawful(20), 0);
        Check.due("none besides", cover.lawful(29), 0);
        Check.due("one way", cover.lawful(919), 2);
        Check.due("ahead of rows", Samples.bare().lawful(999), 8);
        Check.due("of 65536", Check.planned("levels 4 4 4 4 4 4 4 4").lawful(99999999), 65536);
        Check.due("whole, of eight", Check.planned("levels 4 4 4 4 4 4 4 4").lawful(33333333), 1);
    }

    // Promise 26: "NONE, and nothing happens, without these."
    private static void resultBesideRowsAndHows() {
        for (int row : new int[] {MIN, -2, -1, 3, 4, 63, 64, MAX}) {
            for (int how = 0; how <= 2; how++) {
                int by = how;
                Twins.stay("result(" + row + ", " + by + ")", Samples::rich, c -> c.result(row, by), NONE);
            }
        }
        for (int how : new int[] {MIN, -2, -1, 3, 4, 258, MAX}) {
            for (int row = 0; row <= 2; row++) {
                int of = row;
                Twins.stay("result(" + of + ", " + how + ")", Samples::rich, c -> c.result(of, how), NONE);
            }
        }
        Twins.stay("result of no rows", Samples::bare, c -> c.result(0, 1), NONE);
        Twins.stay("result(64) of 64", () -> Samples.withRows(64), c -> c.result(64, 1), NONE);
    }

    // Promise 26: "-2, and nothing happens, if it is so"
    private static void resultAsItIs() {
        // Failed, not told, passed.
        int[] told = {2, 0, 1};
        for (int row = 0; row < 3; row++) {
            for (int how = 0; how <= 2; how++) {
                int of = row;
                int by = how;
                if (by == told[of]) {
                    Twins.stay("result(" + of + ", " + by + ") as it is", Samples::rich, c -> c.result(of, by), -2);
                } else {
                    MixCover cover = Samples.rich();
                    int acts = cover.count(10);
                    Check.due("result(" + of + ", " + by + ")", cover.result(of, by), told[of]);
                    Check.due("an act", cover.count(10), acts + 1);
                    Check.due("it is so then", cover.result(of, by), -2);
                }
            }
        }
    }

    private static void resultOf64() {
        MixCover cover = Samples.withRows(64);
        Check.due("the last passed", cover.result(63, 1), -2);
        Check.due("the last fails", cover.result(63, 2), 1);
        Check.due("the first fails", cover.result(0, 2), 0);
        Check.due("failed", cover.count(9), 3);
        Check.due("passed", cover.count(8), 0);
        for (int row = 0; row < 64; row++) {
            cover.result(row, 1);
        }
        Check.due("all passed", cover.count(8), 64);
        for (int row = 0; row < 64; row++) {
            cover.result(row, 2);
        }
        Check.due("all failed", cover.count(9), 64);
        Check.due("none passed", cover.count(8), 0);
        Check.due("acts", cover.count(10), 8);
    }

    // Promise 27: "or no ROW FAILED (k NONE: 0)"; "(FAILED: 1 at least)"
    private static void guiltyWithNoneFailed() {
        MixCover cover = rowsOf("levels 2 2 2", 0, 1);
        dueNoneGuilty("none told", cover);
        cover.result(0, 1);
        dueNoneGuilty("one passed", cover);
        cover.result(1, 1);
        dueNoneGuilty("all passed", cover);
        cover.result(1, 2);
        Check.due("one failed", cover.guilty(2, NONE), 2);
        cover.result(1, 0);
        dueNoneGuilty("not told again", cover);
        dueNoneGuilty("no rows", Check.planned("levels 2 2 2"));
        cover.result(1, 2);
        cover.drop(1);
        dueNoneGuilty("the failed one is taken away", cover);
    }

    private static void dueNoneGuilty(String told, MixCover cover) {
        for (int columns = 1; columns <= 2; columns++) {
            Check.due("how many: " + told, cover.guilty(columns, NONE), 0);
            Check.due("the first: " + told, cover.guilty(columns, 0), -2);
            Check.due("the last number: " + told, cover.guilty(columns, MAX), -2);
            Check.due("below NONE: " + told, cover.guilty(columns, -2), NONE);
        }
        Check.due("ask: " + told, cover.ask(0), -2);
        Check.due("ask 1: " + told, cover.ask(1), -2);
    }

    // Promise 27: "of so many COLUMNS (1 to T) .. NONE without these"
    private static void guiltyOfSoManyColumns() {
        for (int t = 1; t <= 3; t++) {
            MixCover cover = rowsOf("levels 2 2 2 2;strength " + t, 1010);
            cover.result(0, 2);
            int[] many = {NONE, 4, 6, 4, NONE};
            int[] first = {NONE, 1, 2, 5, NONE};
            for (int columns = -1; columns <= 5; columns++) {
                boolean fits = columns >= 1 && columns <= t;
                Check.due("guilty(" + columns + "), T " + t, cover.guilty(columns, NONE), fits ? many[columns] : NONE);
                Check.due("the first of " + columns + ", T " + t, cover.guilty(columns, 0), fits ? first[columns] : NONE);
            }
            Check.due("guilty(MIN)", cover.guilty(MIN, NONE), NONE);
            Check.due("guilty(MAX)", cover.guilty(MAX, 0), NONE);
        }
    }

    // Promise 27: "-2: there are not so many"; "NONE .. (k below NONE, too)"
    private static void guiltyBesideTheGuiltyOnes() {
        MixCover cover = rowsOf("levels 2 3 4;strength 2", 123, 129, 120);
        cover.result(0, 2);
        int[] of1 = {1, 4, 8};
        int[] of2 = {5, 13, 25};
        for (int k = 0; k < 3; k++) {
            Check.due("of one column, " + k, cover.guilty(1, k), of1[k]);
            Check.due("of two columns, " + k, cover.guilty(2, k), of2[k]);
        }
        for (int columns = 1; columns <= 2; columns++) {
            Check.due("how many", cover.guilty(columns, NONE), 3);
            Check.due("one more", cover.guilty(columns, 3), -2);
            Check.due("far more", cover.guilty(columns, MAX), -2);
            Check.due("k -2", cover.guilty(columns, -2), NONE);
            Check.due("k MIN", cover.guilty(columns, MIN), NONE);
        }
        cover.result(1, 1);
        Check.due("two are left", cover.guilty(2, NONE), 2);
        Check.due("the last of two", cover.guilty(2, 1), 25);
        Check.due("one more than two", cover.guilty(2, 2), -2);
    }

    private static void guiltyOfNoneAndOfAll() {
        MixCover most = rowsOf("levels 4 4 4 4 4 4 4 4", 33333333);
        most.result(0, 2);
        Check.due("28 sets", most.guilty(2, NONE), 28);
        Check.due("the last mix", most.guilty(2, 27), 447);
        Check.due("one more", most.guilty(2, 28), -2);
        MixCover three = rowsOf("levels 2 2 2 2 2 2 2 2;strength 3", 11111111);
        three.result(0, 2);
        Check.due("56 sets", three.guilty(3, NONE), 56);
        Check.due("the last mix", three.guilty(3, 55), 447);
        Check.due("one more", three.guilty(3, 56), -2);
        MixCover none = rowsOf("levels 2 2 2", 0, 111, 999);
        none.result(0, 2);
        none.result(1, 2);
        Check.due("nothing that both have", none.guilty(1, NONE), 0);
        Check.due("the first of nothing", none.guilty(1, 0), -2);
        MixCover free = rowsOf("levels 2 2 2", 999, 0);
        free.result(0, 2);
        Check.due("a row all free", free.guilty(1, NONE), 0);
        Check.due("nothing to part", free.ask(0), -2);
        MixCover all = Check.planned("levels 2 2 2");
        for (int row = 0; row < 64; row++) {
            all.add(row == 63 ? 1 : 0);
            all.result(row, 2);
        }
        Check.due("all 64 failed", all.guilty(2, NONE), 1);
        all.result(63, 1);
        Check.due("63 failed, the last passed", all.guilty(2, NONE), 2);
    }

    // Promise 28: "-2: all ROWS are told, or nothing is GUILTY"
    private static void askWithNothingToAsk() {
        MixCover cover = rowsOf("levels 2 2", 0, 1);
        cover.result(0, 2);
        Check.due("one is not told", cover.ask(0), 1);
        Check.due("its lesser number", cover.ask(1), 0);
        cover.result(1, 2);
        Check.due("all are told", cover.ask(0), -2);
        Check.due("all are told, what 1", cover.ask(1), -2);
        cover.add(11);
        Check.due("nothing is guilty", cover.ask(0), -2);
        Check.due("nothing is guilty, what 1", cover.ask(1), -2);
        Check.due("of one column it is", cover.guilty(1, NONE), 1);
        Check.due("no rows", Check.planned("levels 2 2").ask(1), -2);
        MixCover one = rowsOf("levels 2 2;strength 1", 0, 1, 11);
        one.result(0, 2);
        one.result(1, 2);
        Check.due("of T 1", one.ask(0), 2);
    }

    // Promise 28: "NONE for others"
    private static void askBesideWhats() {
        MixCover asks = rowsOf("levels 2 2", 0, 1);
        asks.result(0, 2);
        MixCover none = Check.planned("levels 2 2");
        for (int what : new int[] {MIN, -2, -1, 2, 3, 32, MAX}) {
            Check.due("ask(" + what + ")", asks.ask(what), NONE);
            Check.due("ask(" + what + ") of nothing", none.ask(what), NONE);
            Check.due("ask(" + what + ") without a plan", Samples.noPlan().ask(what), NONE);
        }
        Check.due("ask(0) without a plan", new MixCover().ask(0), NONE);
        Check.due("ask(1) without a plan", new MixCover().ask(1), NONE);
    }

    // ASK: "of like ones the first"
    private static void askOfLikeOnes() {
        MixCover cover = Check.planned("levels 2 2 2 2");
        cover.add(0);
        cover.result(0, 2);
        for (int row = 1; row < 63; row++) {
            cover.add(1111);
        }
        Check.due("62 alike", cover.ask(0), 1);
        Check.due("62 alike part nothing", cover.ask(1), 0);
        cover.add(9990);
        Check.due("the last like the others", cover.ask(0), 1);
        cover.tell(63, 2, 0);
        Check.due("the last parts", cover.ask(0), 63);
        Check.due("one of six", cover.ask(1), 1);
        cover.tell(62, 3, 0);
        cover.tell(62, 2, 0);
        Check.due("the one ahead of it as well", cover.ask(0), 62);
        cover.tell(63, 1, 0);
        Check.due("half of six", cover.ask(0), 63);
        Check.due("three of six", cover.ask(1), 3);
        cover.tell(63, 0, 0);
        Check.due("all of six are none of six", cover.ask(0), 62);
    }

    // "The last 8 can be UNDONE, the last first"; promise 29: "NONE, and nothing happens, if none can"
    private static void undoOfEightActs() {
        for (int acts = 0; acts <= 26; acts++) {
            MixCover cover = Check.planned("levels 2 2");
            for (int act = 1; act <= acts; act++) {
                cover.add(act % 2);
                Check.due("acts behind " + act, cover.count(10), Math.min(8, act));
            }
            for (int left = Math.min(8, acts) - 1; left >= 0; left--) {
                Check.due("undo", cover.undo(), left);
                Check.due("can be undone", cover.count(10), left);
            }
            Check.due("no more", cover.undo(), NONE);
            Check.due("no more again", cover.undo(), NONE);
            Check.due("none can be", cover.count(10), 0);
            Check.due("rows", cover.count(5), Math.max(0, acts - 8));
            Check.due("mix 0", cover.mix(0, 7), Math.max(0, acts - 8) / 2);
        }
        Twins.stay("undo with no acts", Samples::bare, c -> c.undo(), NONE);
        Twins.stay("undo behind 8", BlameBounds::undoneToTheEnd, c -> c.undo(), NONE);
    }

    private static MixCover undoneToTheEnd() {
        MixCover cover = Samples.withRows(12);
        cover.draws(8);
        for (int i = 0; i < 8; i++) {
            cover.undo();
        }
        return cover;
    }

    private static String stateOf(MixCover cover) {
        StringBuilder told = new StringBuilder(Check.rows(cover));
        for (int what = 0; what <= 12; what++) {
            told.append(' ').append(what == 10 ? 0 : cover.count(what));
        }
        told.append(' ').append(cover.open()).append(' ').append(cover.guilty(2, NONE));
        for (int mix = 0; mix < 8; mix++) {
            told.append(' ').append(cover.mix(mix, 7)).append(' ').append(cover.mix(mix, 8));
        }
        return told.toString();
    }

    private static long act(MixCover cover, int act) {
        switch (act % 14) {
            case 0: return cover.add(cover.count(0) == 4 ? 1999 : 199);
            case 1: return cover.tell(0, 2, 0) + 1;
            case 2: return cover.drop(1);
            case 3: return cover.greed();
            case 4: return cover.fill();
            case 5: return cover.field();
            case 6: return cover.widen(2);
            case 7: return cover.drawn();
            case 8: return cover.result(0, 1);
            case 9: return cover.result(1, 2);
            case 10: return cover.result(0, 2);
            case 11: return cover.settle();
            case 12: return cover.order();
            default: return cover.thin();
        }
    }

    /** All acts in turn, from each of them on, x told anew between: eight are undone, each to what was ahead of it. */
    private static void undoOfEachActInTurn() {
        for (int from = 0; from < 14; from++) {
            MixCover cover = Check.planned("levels 2 3 2;never 0.0&1.1&2.0");
            cover.add(9);
            cover.add(1);
            List<String> ahead = new ArrayList<>();
            for (int act = from; ahead.size() < 12; act++) {
                cover.draws(1000 + act);
                int acts = cover.count(10);
                String state = stateOf(cover);
                if (act(cover, act) >= 0) {
                    ahead.add(state);
                    Check.due("acts behind act " + act, cover.count(10), Math.min(8, acts + 1));
                } else {
                    Check.dueText("act " + act + " refused", stateOf(cover), state);
                    Check.due("acts behind act " + act + ", refused", cover.count(10), acts);
                }
            }
            for (int left = 7; left >= 0; left--) {
                Check.due("undo", cover.undo(), left);
                Check.dueText("undone to act " + left + " from " + from, stateOf(cover), ahead.get(4 + left));
            }
            Check.due("no more", cover.undo(), NONE);
            Check.dueText("no more", stateOf(cover), ahead.get(4));
        }
    }

    private static void undoThenActsAnew() {
        for (int undone = 0; undone <= 8; undone++) {
            for (int anew = 0; anew <= 9; anew++) {
                MixCover cover = rowsOf("levels 2 2", 0, 0, 0, 0, 0, 0, 0, 0, 0, 0, 0);
                for (int i = 0; i < undone; i++) {
                    cover.undo();
                }
                for (int i = 0; i < anew; i++) {
                    cover.add(11);
                }
                int can = Math.min(8, 8 - undone + anew);
                Check.due("acts", cover.count(10), can);
                Check.due("rows", cover.count(5), 11 - undone + anew);
                for (int left = can - 1; left >= 0; left--) {
                    Check.due("undo", cover.undo(), left);
                }
                Check.due("rows then", cover.count(5), 11 - undone + anew - can);
                Check.due("of the first kind", cover.mix(0, 7), Math.min(11 - undone, 11 - undone + anew - can));
            }
        }
    }

    // "(x, too; TAPE and SHELVES stay)"
    private static void undoLeavesTapeAndShelves() {
        MixCover cover = Samples.rich();
        cover.draws(77);
        cover.add(110);
        cover.draws(88);
        cover.keep(1);
        cover.end(7);
        int left = cover.count(10) - 1;
        Check.due("undo", cover.undo(), left);
        Check.due("x ahead of it", cover.count(11), 77);
        Check.due("the tape stays", cover.count(12), 7);
        Check.due("the shelf stays", cover.back(1), 4);
        Check.due("x of the shelf", cover.count(11), 88);
        Check.due("the other shelf stays", cover.back(0), 2);
    }

    // Promise 30: "NONE, and nothing happens, without that SHELF"
    private static void keepBesideShelves() {
        for (int shelf : new int[] {MIN, -2, -1, 2, 3, 32, MAX}) {
            Twins.stay("keep(" + shelf + ")", Samples::rich, c -> c.keep(shelf), NONE);
            Twins.stay("keep(" + shelf + ") without a plan", Samples::noPlan, c -> c.keep(shelf), NONE);
            Twins.stay("keep(" + shelf + ") of no rows", Samples::bare, c -> c.keep(shelf), NONE);
        }
        for (int shelf = 0; shelf <= 1; shelf++) {
            MixCover cover = Samples.bare();
            Check.due("keep no rows", cover.keep(shelf), 0);
            Check.due("the other one", cover.back(1 - shelf), -2);
            Check.due("back to no rows", cover.back(shelf), 0);
            MixCover full = Samples.withRows(64);
            Check.due("keep 64 rows", full.keep(shelf), 64);
            full.field();
            full.drop(63);
            Check.due("back to 64 rows", full.back(shelf), 64);
            Check.due("the last one passed", full.result(63, 1), -2);
        }
    }

    // Promise 31: "NONE, and nothing happens, without that SHELF."
    private static void backBesideShelves() {
        for (int shelf : new int[] {MIN, -2, -1, 2, 3, 32, MAX}) {
            Twins.stay("back(" + shelf + ")", Samples::rich, c -> c.back(shelf), NONE);
            Twins.stay("back(" + shelf + ") without a plan", Samples::noPlan, c -> c.back(shelf), NONE);
        }
    }

    private static MixCover oneShelf(int shelf) {
        MixCover cover = Samples.bare();
        cover.add(110);
        cover.result(0, 2);
        cover.keep(shelf);
        cover.add(1);
        return cover;
    }

    // Promise 31: "-2, and nothing happens: nothing is KEPT."
    private static void backOfNothingKept() {
        for (int shelf = 0; shelf <= 1; shelf++) {
            int of = shelf;
            Twins.stay("back(" + of + ") of nothing", Samples::bare, c -> c.back(of), -2);
            Twins.stay("back(" + of + ") of nothing, without a plan", Samples::noPlan, c -> c.back(of), -2);
            Twins.stay("back(" + of + ") beside the other", () -> oneShelf(1 - of), c -> c.back(of), -2);
            Twins.stay("keep without a plan", Samples::noPlan, c -> c.keep(of), NONE);
        }
    }

    // "SHELVES 0, 1"; promise 31: "All is as it was KEPT (x, too; nothing can be UNDONE then)"
    private static void shelvesAreTheirOwn() {
        for (int shelf = 0; shelf <= 1; shelf++) {
            MixCover cover = oneShelf(shelf);
            cover.draws(4);
            cover.widen(2);
            cover.keep(1 - shelf);
            cover.fill();
            Check.due("back", cover.back(shelf), 1);
            Check.due("columns", cover.count(0), 3);
            Check.due("mixes", cover.count(2), 16);
            Check.due("x", cover.count(11), 31415);
            Check.due("failed", cover.count(9), 1);
            Check.due("acts", cover.count(10), 0);
            Check.due("undo", cover.undo(), NONE);
            // What is done then is not done to the shelf.
            cover.drop(0);
            cover.widen(4);
            cover.draws(9);
            Check.due("acts anew", cover.count(10), 2);
            Check.due("back to the other", cover.back(1 - shelf), 2);
            Check.due("its columns", cover.count(0), 4);
            Check.due("its x", cover.count(11), 4);
            Check.due("acts", cover.count(10), 0);
            Check.due("back to the one", cover.back(shelf), 1);
            Check.dueRows("back to the one", cover, "110");
            Check.due("its mixes", cover.count(2), 16);
            Check.due("its open ones", cover.open(), cover.count(3) - 3);
            cover.drop(0);
            Check.due("kept anew", cover.keep(shelf), 0);
            cover.add(1);
            Check.due("back to what is kept anew", cover.back(shelf), 0);
        }
    }

    // "all is KEPT but the TAPE, acts and SHELVES"
    private static void backLeavesTheTape() {
        MixCover cover = Samples.rich();
        cover.keep(0);
        cover.end(0);
        Check.feed(cover, "levels 4 4");
        int acts = cover.count(10);
        cover.keep(0);
        Check.due("keep leaves the acts", cover.count(10), acts);
        cover.back(1);
        Check.due("the tape stays", cover.count(12), 10);
        cover.keep(1);
        Check.due("the other shelf stays", cover.back(0), 3);
        Check.due("the tape is read", cover.plan(), 16);
        cover.back(0);
        Check.due("the tape is empty", cover.count(12), 0);
    }

    // Promise 32: "NONE for others."
    private static void countBesideWhats() {
        for (int what : new int[] {MIN, -13, -2, -1, 13, 14, 32, 1000, MAX}) {
            Check.due("count(" + what + ")", Samples.rich().count(what), NONE);
            Check.due("count(" + what + ") without a plan", new MixCover().count(what), NONE);
        }
        MixCover cover = Samples.rich();
        // 110, 190, 001: failed, not told, passed; of 16 mixes 0.0 1.2 and 1.1 2.1 can't be.
        int[] want = {3, 2, 16, 14, 2, 3, 2, 1, 1, 1, 6, 271828, 12};
        for (int what = 0; what <= 12; what++) {
            Check.due("count(" + what + ")", cover.count(what), want[what]);
        }
    }

    private static void countsFromNoneToAll() {
        MixCover cover = Check.planned("levels 2 2");
        int[] none = {2, 2, 4, 4, 0, 0, 0, 0, 0, 0, 0, 0, 0};
        for (int what = 0; what <= 12; what++) {
            Check.due("count(" + what + ") of no rows", cover.count(what), none[what]);
        }
        for (int row = 0; row < 64; row++) {
            cover.add(99);
        }
        Check.due("none is whole", cover.count(6), 0);
        Check.due("all are free", cover.count(7), 128);
        for (int row = 0; row < 64; row++) {
            cover.tell(row, 0, 1);
        }
        Check.due("half are free", cover.count(7), 64);
        Check.due("none is whole yet", cover.count(6), 0);
        for (int row = 0; row < 64; row++) {
            cover.tell(row, 1, 1);
        }
        Check.due("all are whole", cover.count(6), 64);
        Check.due("nothing is free", cover.count(7), 0);
        MixCover eight = rowsOf("levels 4 4 4 4 4 4 4 4", 99999999, 33333333, 93333333, 33333339);
        Check.due("whole of eight columns", eight.count(6), 1);
        Check.due("free of eight columns", eight.count(7), 10);
    }

    // "An object is used for at most 512 calls after it has been made": the 512th is answered as the first.
    private static void fiveHundredAndTwelveCalls() {
        MixCover cover = new MixCover();
        cover.feed(0x6c657665, 0x6c732032, 0x20322020, 0x20202020, 0x20202020);
        Check.due("call 2", cover.plan(), 4);
        for (int call = 3; call < 512; call += 2) {
            Check.due("call " + call, cover.fill(), 4);
            Check.due("call " + (call + 1), cover.undo(), 0);
        }
        MixCover reads = Check.planned("levels 2 2");
        for (int call = 4; call < 512; call++) {
            Check.due("call " + call, reads.draws(call), call == 4 ? 0 : call - 1);
        }
        Check.due("call 512", reads.count(11), 511);
    }
}
