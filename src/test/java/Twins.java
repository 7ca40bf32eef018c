import java.util.function.Function;
import java.util.function.Supplier;
import java.util.function.ToLongFunction;

/**
 * "Nothing happens": of two objects that are alike one gets the call, and whatever is asked of both afterwards is
 * answered alike. Each probe has objects of its own, as a probe may change them.
 */
final class Twins {
    private static final int NONE = -1;

    private Twins() {
    }

    /** The call answers what is due, and nothing happens. */
    static void stay(String told, Supplier<MixCover> maker, ToLongFunction<MixCover> call, long due) {
        String name = told;
        for (int probe = 0; probe < 8; probe++) {
            MixCover one = maker.get();
            MixCover other = maker.get();
            Check.due(name, call.applyAsLong(one), due);
            Check.dueText(name + ", then probe " + probe, probe(one, probe), probe(other, probe));
        }
    }

    /** The call answers what is due, and all is as if the other call had come in its place. */
    static void areAlike(String told, Supplier<MixCover> maker, ToLongFunction<MixCover> call, long due,
            ToLongFunction<MixCover> instead) {
        for (int probe = 0; probe < 8; probe++) {
            MixCover one = maker.get();
            MixCover other = maker.get();
            Check.due(told, call.applyAsLong(one), due);
            instead.applyAsLong(other);
            Check.dueText(told + ", then probe " + probe, probe(one, probe), probe(other, probe));
        }
    }

    /** Whether a probe tells the call from none: if it does not, stay() would be blind. */
    static boolean part(Supplier<MixCover> maker, ToLongFunction<MixCover> call) {
        boolean parted = false;
        for (int probe = 0; probe < 8; probe++) {
            MixCover one = maker.get();
            MixCover other = maker.get();
            call.applyAsLong(one);
            parted |= !probe(one, probe).equals(probe(other, probe));
        }
        return parted;
    }

    private static String probe(MixCover cover, int probe) {
        switch (probe) {
            case 0: return counts(cover) + rowsTold(cover);
            case 1: return mixes(cover);
            case 2: return asked(cover);
            case 3: return undone(cover);
            case 4: return "back " + cover.back(0) + counts(cover) + Check.rows(cover);
            case 5: return "back " + cover.back(1) + counts(cover) + Check.rows(cover);
            case 6: return "plan " + cover.plan() + counts(cover) + Check.rows(cover);
            default: return made(cover);
        }
    }

    private static String counts(MixCover cover) {
        StringBuilder told = new StringBuilder(" counts");
        for (int what = 0; what <= 12; what++) {
            told.append(' ').append(cover.count(what));
        }
        for (int column = 0; column < cover.count(0); column++) {
            told.append(' ').append(cover.levels(column));
        }
        return told.append(' ').toString();
    }

    private static String rowsTold(MixCover cover) {
        StringBuilder told = new StringBuilder(Check.rows(cover));
        for (int row = 0; row < cover.count(5); row++) {
            told.append(' ').append(cover.result(row, 0));
        }
        return told.toString();
    }

    private static String mixes(MixCover cover) {
        StringBuilder told = new StringBuilder();
        int mixes = Math.min(40, cover.count(2));
        for (int mix = 0; mix < mixes; mix++) {
            for (int what = 0; what <= 8; what++) {
                told.append(cover.mix(mix, what)).append(what < 8 ? " " : ", ");
            }
        }
        return told.toString();
    }

    private static String asked(MixCover cover) {
        StringBuilder told = new StringBuilder();
        told.append(cover.open()).append(' ').append(cover.openMix(0)).append(' ').append(cover.openMix(3));
        told.append(' ').append(cover.least()).append(' ').append(cover.ask(0)).append(' ').append(cover.ask(1));
        for (int width = 1; width <= 3; width++) {
            for (int k = NONE; k < 2; k++) {
                told.append(' ').append(cover.guilty(width, k));
            }
        }
        int free = 0;
        for (int column = 0; column < cover.count(0); column++) {
            free = free * 10 + 9;
        }
        told.append(' ').append(cover.hope(free)).append(' ').append(cover.lawful(free));
        for (int row = 0; row < cover.count(5); row++) {
            told.append(' ').append(cover.gain(row));
        }
        return told.toString();
    }

    private static String undone(MixCover cover) {
        StringBuilder told = new StringBuilder();
        int left = 0;
        for (int i = 0; i < 9 && left >= 0; i++) {
            left = cover.undo();
            told.append("undo ").append(left).append(counts(cover)).append(lastRows(cover)).append(' ');
        }
        return told.toString();
    }

    /** Two rows alone, so that an object with 64 of them is asked less than 512 times. */
    private static String lastRows(MixCover cover) {
        StringBuilder told = new StringBuilder();
        int rows = cover.count(5);
        int columns = cover.count(0);
        for (int row = Math.max(0, rows - 2); row < rows; row++) {
            for (int column = 0; column < columns; column++) {
                told.append(cover.cell(row, column)).append(' ');
            }
        }
        return told.toString();
    }

    private static String made(MixCover cover) {
        StringBuilder told = new StringBuilder();
        told.append(cover.drawn()).append(' ').append(cover.greed()).append(' ').append(cover.settle());
        told.append(' ').append(cover.order()).append(' ').append(cover.thin()).append(' ').append(cover.fill());
        told.append(' ').append(cover.widen(2)).append(' ').append(cover.field());
        return told.append(counts(cover)).append(Check.rows(cover)).toString();
    }
}
