import java.util.List;
import java.util.function.Supplier;

/** No call throws or fails to end, for any arguments in any state (LANGUAGE.md, rule 7); what stays whole is looked at. */
public final class AnyArguments {
    private static final int[] ODD = {Integer.MIN_VALUE, Integer.MIN_VALUE + 1, -65536, -3, -2, -1, 0, 1, 2, 3, 4, 5, 7, 8, 9,
        12, 13, 16, 31, 32, 63, 64, 65, 200, 1199, 1200, 65536, 99999999, 100000000, Integer.MAX_VALUE - 1, Integer.MAX_VALUE};

    private AnyArguments() {
    }

    public static void main(String[] args) {
        List<Supplier<MixCover>> states = List.of(MixCover::new, Samples::noPlan, Samples::bare, Samples::rich, Samples::closed,
            () -> Samples.withRows(64), AnyArguments::most);
        for (Supplier<MixCover> state : states) {
            withOne(state);
            withTwo(state);
            withThree(state);
            withNone(state);
        }
        greedGainsWhatIsExpected();
        Check.endOf("AnyArguments");
    }

    /** The most columns, mixes, nevers, rows, bytes. */
    private static MixCover most() {
        MixCover cover = Samples.rich();
        Check.plan(cover, "levels2 2 3 4 4 4 4;strength3" + ";never6.3&5.3".repeat(12));
        cover.add(9999999);
        cover.fill();
        cover.result(0, 2);
        cover.result(63, 1);
        cover.keep(0);
        while (cover.feed(-1, Integer.MIN_VALUE, Integer.MAX_VALUE, 0, 1) >= 0) {
            cover.count(12);
        }
        return cover;
    }

    /** Rows and columns that are told as many are there, and each row can be. */
    private static void dueWhole(String told, MixCover cover) {
        int rows = cover.count(5);
        int columns = cover.count(0);
        int free = 0;
        for (int row = 0; row < rows; row++) {
            int digits = 0;
            for (int column = 0; column < columns; column++) {
                int cell = cover.cell(row, column);
                free += cell < 0 ? 1 : 0;
                digits = digits * 10 + (cell < 0 ? 9 : cell);
            }
            Check.due(told + ": row " + row + " can be", cover.lawful(digits) > 0 ? 1 : 0, 1);
        }
        Check.due(told + ": free cells", cover.count(7), free);
        Check.due(told + ": rows", rows >= 0 && rows <= 64 ? 1 : 0, 1);
        Check.due(told + ": bytes", cover.count(12) >= 0 && cover.count(12) <= 200 ? 1 : 0, 1);
    }

    private static void withOne(Supplier<MixCover> state) {
        for (int a : ODD) {
            MixCover cover = state.get();
            cover.levels(a);
            cover.drop(a);
            cover.openMix(a);
            cover.hope(a);
            cover.gain(a);
            cover.lawful(a);
            cover.ask(a);
            cover.count(a);
            cover.keep(a);
            cover.draws(a);
            cover.add(a);
            cover.widen(a);
            cover.drawn();
            cover.end(a);
            dueWhole("with " + a, cover);
            cover.back(a);
            dueWhole("back(" + a + ")", cover);
        }
    }

    private static void withTwo(Supplier<MixCover> state) {
        MixCover cover = state.get();
        for (int a : ODD) {
            for (int b : ODD) {
                cover.mix(a, b);
                cover.cell(a, b);
                cover.guilty(a, b);
                cover.result(a, b);
            }
        }
        dueWhole("with two", cover);
    }

    private static void withThree(Supplier<MixCover> state) {
        MixCover cover = state.get();
        for (int a : ODD) {
            for (int b : ODD) {
                for (int c : ODD) {
                    cover.tell(a, b, c);
                }
            }
            cover.feed(a, a, a, a, a);
        }
        dueWhole("with three", cover);
        Check.due("bytes that are no plan", cover.plan() <= -3 ? 1 : 0, 1);
    }

    private static void withNone(Supplier<MixCover> state) {
        MixCover cover = state.get();
        for (int turn = 0; turn < 3; turn++) {
            cover.settle();
            cover.greed();
            cover.order();
            cover.thin();
            cover.fill();
            dueWhole("filled", cover);
            cover.undo();
            cover.field();
            cover.open();
            cover.least();
            cover.widen(2 + turn);
            cover.drawn();
            dueWhole("widened", cover);
            cover.plan();
            cover.undo();
        }
        dueWhole("with none", cover);
    }

    // "rows by greed whose gain is at least what is to be expected": without nevers, by HOPE of a row that is all FREE.
    private static void greedGainsWhatIsExpected() {
        String[] plans = {"levels 2 2 2", "levels 2 3 4", "levels 4 4 4 4", "levels 2 3 4 2 3;strength 3", "levels 3 4;strength 1"};
        for (String plan : plans) {
            MixCover cover = Check.planned(plan);
            long sixties = cover.count(1) == 1 ? 60 : cover.count(1) == 2 ? 3600 : 216000;
            int free = 0;
            for (int column = 0; column < cover.count(0); column++) {
                free = free * 10 + 9;
            }
            while (cover.open() > 0) {
                long hope = cover.hope(free);
                long gain = cover.greed();
                Check.due("gain " + gain + " by a hope of " + hope, gain * sixties >= hope ? 1 : 0, 1);
            }
            Check.due("no fewer rows can do", cover.count(5) >= cover.least() ? 1 : 0, 1);
        }
    }
}
