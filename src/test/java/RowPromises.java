/** Promises 7 to 25: rows by hand, by greed, by a field, by draws, and what is done with them. */
public final class RowPromises {
    private static final int NONE = -1;

    private RowPromises() {
    }

    public static void main(String[] args) {
        add();
        tell();
        cell();
        drop();
        open();
        openMix();
        hope();
        greed();
        greedWithNevers();
        fill();
        field();
        fieldThatFails();
        widen();
        settle();
        thin();
        order();
        drawn();
        draws();
        gain();
        least();
        lawful();
        Check.endOf("RowPromises");
    }

    private static void add() {
        MixCover cover = Check.planned("levels 2 3 2;never 0.0&1.2;never 1.1&2.0;never 1.1&2.1");
        Check.due("add", cover.add(100), 1);
        Check.due("add with leading zero", cover.add(1), 2);
        Check.due("add free", cover.add(999), 3);
        Check.dueRows("add", cover, "100,001,999");
        Check.due("add a never", cover.add(21), -2);
        Check.due("add what is forbidden besides", cover.add(919), -2);
        Check.due("a digit no level", cover.add(200), NONE);
        Check.due("a digit no level, the last", cover.add(2), NONE);
        Check.due("a digit of 8", cover.add(8), NONE);
        Check.due("more digits", cover.add(1000), NONE);
        Check.due("many more digits", cover.add(Integer.MAX_VALUE), NONE);
        Check.due("below 0", cover.add(-1), NONE);
        Check.due("the least int", cover.add(Integer.MIN_VALUE), NONE);
        Check.due("rows", cover.count(5), 3);
        Check.due("acts", cover.count(10), 3);
        for (int n = 4; n <= 64; n++) {
            Check.due("add " + n, cover.add(100), n);
        }
        Check.due("add a 65th", cover.add(100), NONE);
        Check.due("add a 65th that can't be", cover.add(21), NONE);
        MixCover wide = Check.planned("levels 4 4 4 4 4 4 4 4");
        Check.due("eight digits", wide.add(33333333), 1);
        Check.due("eight free", wide.add(99999999), 2);
        Check.due("nine digits", wide.add(100000000), NONE);
        Check.dueRows("eight digits", wide, "33333333,99999999");
    }

    private static void tell() {
        MixCover cover = Check.planned("levels 2 3 2;never 0.0&1.2");
        cover.add(9);
        Check.due("tell a free cell", cover.tell(0, 2, 1), NONE);
        Check.due("tell it anew", cover.tell(0, 2, 0), 1);
        Check.due("tell as it is", cover.tell(0, 2, 0), -3);
        Check.due("tell free", cover.tell(0, 2, NONE), 0);
        Check.due("tell free what is free", cover.tell(0, 2, NONE), -3);
        Check.due("tell what can't be", cover.tell(0, 1, 2), -2);
        Check.dueRows("tell", cover, "009");
        Check.due("acts", cover.count(10), 4);
        Check.due("no such row", cover.tell(1, 0, 0), -4);
        Check.due("row -1", cover.tell(-1, 0, 0), -4);
        Check.due("no such column", cover.tell(0, 3, 0), -4);
        Check.due("column -1", cover.tell(0, -1, 0), -4);
        Check.due("no such level", cover.tell(0, 0, 2), -4);
        Check.due("level 3 of 3", cover.tell(0, 1, 3), -4);
        Check.due("level below NONE", cover.tell(0, 0, -2), -4);
        Check.due("mix 0 is had", cover.mix(0, 7), 1);
        cover.tell(0, 1, 1);
        Check.due("mix 0 is had no more", cover.mix(0, 7), 0);
        Check.due("mix 1 is had", cover.mix(1, 7), 1);
        cover.result(0, 2);
        cover.tell(0, 1, 0);
        Check.due("it stays failed", cover.count(9), 1);
    }

    private static void cell() {
        MixCover cover = Check.planned("levels 2 3");
        cover.add(92);
        Check.due("free", cover.cell(0, 0), NONE);
        Check.due("level 2", cover.cell(0, 1), 2);
        Check.due("no such row", cover.cell(1, 0), -2);
        Check.due("row -1", cover.cell(-1, 0), -2);
        Check.due("no such column", cover.cell(0, 2), -2);
        Check.due("column -1", cover.cell(0, -1), -2);
    }

    private static void drop() {
        MixCover cover = Check.planned("levels 2 2");
        cover.add(0);
        cover.add(1);
        cover.add(10);
        cover.result(2, 2);
        Check.due("no such row", cover.drop(3), NONE);
        Check.due("row -1", cover.drop(-1), NONE);
        Check.due("acts", cover.count(10), 4);
        Check.due("drop", cover.drop(0), 2);
        Check.dueRows("drop", cover, "01,10");
        Check.due("told comes nearer", cover.result(1, 2), -2);
        Check.due("mix 0 is open again", cover.openMix(0), 0);
        Check.due("drop the last", cover.drop(1), 1);
        Check.due("drop all", cover.drop(0), 0);
        Check.due("drop of none", cover.drop(0), NONE);
        Check.due("all open", cover.open(), 4);
    }

    private static void open() {
        MixCover cover = Check.planned("levels 2 2 2;never 0.0&1.0");
        Check.due("mixes that can be", cover.open(), 11);
        cover.add(11);
        Check.due("a row has three", cover.open(), 8);
        cover.add(11);
        Check.due("it again has none more", cover.open(), 8);
        cover.add(191);
        Check.due("a free cell has none", cover.open(), 7);
    }

    private static void openMix() {
        MixCover cover = Check.planned("levels 2 2 2;never 0.0&1.0");
        Check.due("the first can't be", cover.openMix(0), 1);
        cover.add(11);
        Check.due("the first", cover.openMix(0), 2);
        Check.due("the second", cover.openMix(1), 3);
        Check.due("the third", cover.openMix(2), 4);
        Check.due("the last", cover.openMix(7), 10);
        Check.due("one more", cover.openMix(8), -2);
        Check.due("the greatest int", cover.openMix(Integer.MAX_VALUE), -2);
        Check.due("below 0", cover.openMix(-1), NONE);
    }

    private static void hope() {
        MixCover cover = Check.planned("levels 2 2 2");
        Check.due("all free", cover.hope(999), 12 * 900);
        Check.due("one told", cover.hope(99), 4 * 60 * 30 + 4 * 900);
        Check.due("all told", cover.hope(0), 3 * 3600);
        cover.add(0);
        Check.due("nothing more", cover.hope(0), 0);
        Check.due("one told, less open", cover.hope(99), 2 * 1800 + 3 * 900);
        Check.due("more digits", cover.hope(1000), NONE);
        Check.due("no level", cover.hope(2), NONE);
        Check.due("below 0", cover.hope(-1), NONE);
        MixCover unlike = Check.planned("levels 2 3 4;strength 3");
        Check.due("unlike levels", unlike.hope(999), 24 * 30 * 20 * 15);
        Check.due("unlike levels, one told", unlike.hope(929), 8 * 30 * 60 * 15);
        // With 0.0 in the row neither 1.0 nor, besides, 2.0 can be.
        MixCover never = Check.planned("levels 2 2 2;never 0.0&1.0;never 1.1&2.0");
        Check.due("by nevers", never.hope(99), 1800 + 1800 + 900);
        Check.due("a row that can't be", never.hope(9), 0);
        MixCover much = Check.planned("levels 2 2 3 4 4 4 4;strength 3");
        Check.due("much", much.hope(9999999), 35L * 216000);
    }

    private static void greed() {
        MixCover cover = Check.planned("levels 2 2 2");
        Check.due("first", cover.greed(), 3);
        Check.due("second", cover.greed(), 3);
        Check.due("third", cover.greed(), 3);
        Check.due("fourth", cover.greed(), 3);
        Check.dueRows("greed", cover, "000,110,011,101");
        Check.due("nothing is open", cover.greed(), -2);
        Check.due("acts", cover.count(10), 4);
        MixCover full = Check.planned("levels 2 2");
        for (int i = 0; i < 63; i++) {
            full.add(99);
        }
        Check.due("a 64th row", full.greed(), 1);
        Check.due("a 65th", full.greed(), NONE);
        Check.due("rows", full.count(5), 64);
        MixCover closed = Check.planned("levels 2 2;strength 1");
        for (int i = 0; i < 64; i++) {
            closed.add(i % 2 * 11);
        }
        Check.due("nothing open, but 64 rows ahead of it", closed.greed(), NONE);
    }

    private static void greedWithNevers() {
        MixCover cover = Check.planned("levels 2 2 2;never 0.0&1.0;never 1.1&2.0");
        // Left are 011, 100, 101, 111. Column 0: 0 has 3 mixes of its own, 1 has 4.
        Check.due("first", cover.greed(), 3);
        Check.dueRows("first", cover, "100");
        Check.due("second", cover.greed(), 3);
        // Open are 0.0 with 1.1 and with 2.1, 0.1 with 1.1 and with 2.1, 1.0 and 1.1 with 2.1: 0.1 goes with four.
        Check.dueRows("second", cover, "100,111");
        Check.due("fill", cover.fill(), 2);
        Check.due("all lawful rows", cover.count(6), 4);
    }

    private static void fill() {
        MixCover cover = Check.planned("levels 2 2 2");
        Check.due("fill", cover.fill(), 4);
        Check.dueRows("fill", cover, "000,110,011,101");
        Check.due("one act", cover.count(10), 1);
        Check.due("fill again", cover.fill(), 0);
        Check.due("no act", cover.count(10), 1);
        Check.due("undone", cover.undo(), 0);
        Check.due("no rows", cover.count(5), 0);
        MixCover half = Check.planned("levels 2 2 2");
        half.add(0);
        Check.due("fill behind a row", half.fill(), 3);
        MixCover full = Check.planned("levels 2 2");
        for (int i = 0; i < 62; i++) {
            full.add(99);
        }
        Check.due("fill till 64", full.fill(), 2);
        Check.due("open still", full.open(), 2);
        full.keep(0);
        full.back(0);
        Check.due("fill with 64", full.fill(), 0);
        Check.due("is no act", full.count(10), 0);
        Check.due("greed with 64", full.greed(), NONE);
        Check.due("is no act, too", full.count(10), 0);
    }

    private static void field() {
        MixCover two = Check.planned("levels 2 2 2");
        two.add(111);
        Check.due("field of 2", two.field(), 2);
        Check.dueRows("field of 2", two, "000,011,110,101");
        Check.due("all covered", two.open(), 0);
        Check.due("acts", two.count(10), 2);
        MixCover three = Check.planned("levels 2 3;strength 1");
        three.field();
        Check.dueRows("field of 3, strength 1", three, "00,11,92");
        MixCover four = Check.planned("levels 4 4 4 4 4");
        Check.due("field of 4", four.field(), 4);
        Check.due("rows", four.count(5), 16);
        Check.due("all covered by 4", four.open(), 0);
        // 2 + 3z: 2, 2^3, 2^(3*2), 2^(3*3), then 3.
        int[] want = {2, 1, 3, 0, 3};
        for (int column = 0; column < 5; column++) {
            Check.due("row 11 column " + column, four.cell(11, column), want[column]);
        }
        MixCover five = Check.planned("levels 2 2 2 2 2 3");
        Check.due("field of 5", five.field(), 5);
        Check.due("rows of 5", five.count(5), 25);
        // 1 + 3z: 1, 4, 2, 0, 3, then 3.
        want = new int[] {1, NONE, NONE, 0, NONE, NONE};
        for (int column = 0; column < 6; column++) {
            Check.due("row 8 column " + column, five.cell(8, column), want[column]);
        }
        MixCover seven = Check.planned("levels 2 2 2 2 2 2 4");
        Check.due("field of 7", seven.field(), 7);
        Check.due("rows of 7", seven.count(5), 49);
        MixCover eight = Check.planned("levels 4 4 4 4 4 4 4 4");
        Check.due("field of 7 for eight columns", eight.field(), 7);
        Check.due("the last column has the last c", eight.cell(24, 7), 3);
        MixCover cubes = Check.planned("levels 2 3 4;strength 3");
        Check.due("field of 4, strength 3", cubes.field(), 4);
        // 1 + 2z + 3zz: at 0 it is 1, at 1 it is 1 + 2 + 3, at 2 it is 1 + 3 + 3 * 3, which is 1 + 3 + 2.
        Check.due("at 0", cubes.cell(27, 0), 1);
        Check.due("at 1", cubes.cell(27, 1), 0);
        Check.due("at 2", cubes.cell(27, 2), 0);
    }

    private static void fieldThatFails() {
        MixCover many = Check.planned("levels 2 2 2 2 2 2;strength 3");
        many.add(0);
        Check.due("125 rows", many.field(), -2);
        Check.dueRows("as before", many, "000000");
        Check.due("acts", many.count(10), 1);
        MixCover never = Check.planned("levels 2 2 2;never 0.1&1.1&2.0");
        never.add(0);
        Check.due("a row that can't be", never.field(), -2);
        Check.dueRows("as before a row that can't be", never, "000");
        MixCover other = Check.planned("levels 2 2 2;never 0.1&1.1&2.1");
        Check.due("a never that it has not", other.field(), 2);
    }

    private static void widen() {
        MixCover cover = Check.planned("levels 2 2;never 0.0&1.0");
        cover.add(1);
        cover.result(0, 1);
        Check.due("1 level", cover.widen(1), NONE);
        Check.due("5 levels", cover.widen(5), NONE);
        Check.due("the least int", cover.widen(Integer.MIN_VALUE), NONE);
        Check.due("acts", cover.count(10), 2);
        Check.due("3 levels", cover.widen(3), 4 + 6 + 6);
        Check.dueRows("widened", cover, "019");
        Check.due("its levels", cover.levels(2), 3);
        Check.due("nevers stay", cover.add(0), -2);
        Check.due("passed stays", cover.count(8), 1);
        Check.due("open", cover.open(), 14);
        Check.due("undone", cover.undo(), 2);
        Check.due("columns", cover.count(0), 2);
        Check.due("no such column", cover.levels(2), NONE);
        Check.due("open as before", cover.open(), 2);
        Check.due("mixes as before", cover.count(2), 4);
        MixCover eight = Check.planned("levels 2 2 2 2 2 2 2");
        Check.due("an eighth", eight.widen(2), 112);
        Check.due("a ninth", eight.widen(2), NONE);
        MixCover many = Check.planned("levels 4 4 4 4 4;strength 3");
        Check.due("too many mixes", many.widen(4), NONE);
        Check.due("columns as before", many.count(0), 5);
        Check.due("mixes stay", many.count(2), 640);
        Check.due("fewer", many.widen(3), 1120);
    }

    private static void settle() {
        MixCover cover = Check.planned("levels 2 2 2;never 0.1&1.1");
        cover.add(999);
        cover.add(99);
        cover.add(191);
        Check.due("settle", cover.settle(), 6);
        // 999: no mix is whole before column 1; then each level has as many, the least is taken: 000.
        // 099: by 1.1 it has (0,1) 01; by 2.0 (1,2) 10 more, by 2.1 (0,2) 01, (1,2) 11 more.
        // 191: 1.1 can't be.
        Check.dueRows("settle", cover, "000,011,101");
        Check.due("whole", cover.count(6), 3);
        Check.due("acts", cover.count(10), 4);
        Check.due("nothing is free", cover.settle(), 0);
        Check.due("an act all the same", cover.count(10), 5);
    }

    private static void thin() {
        MixCover cover = Check.planned("levels 2 2 2");
        cover.add(0);
        cover.add(999);
        cover.add(9);
        cover.add(90);
        cover.add(0);
        cover.add(111);
        cover.result(5, 2);
        Check.due("thin", cover.thin(), 4);
        Check.dueRows("thin", cover, "000,111");
        Check.due("told stays with its row", cover.result(1, 2), -2);
        Check.due("acts", cover.count(10), 8);
        Check.due("thin again", cover.thin(), 0);
        MixCover last = Check.planned("levels 2 2");
        last.add(0);
        last.add(0);
        last.result(0, 1);
        Check.due("the last one goes", last.thin(), 1);
        Check.due("the first stays", last.count(8), 1);
        Check.due("an act", last.undo(), 3);
        Check.due("both again", last.count(5), 2);
    }

    private static void order() {
        MixCover cover = Check.planned("levels 2 2 2");
        cover.add(999);
        cover.add(99);
        cover.add(9);
        cover.add(0);
        cover.add(111);
        cover.add(101);
        cover.result(3, 2);
        Check.due("order", cover.order(), 3);
        // 000, 111 have three each; 101 then three of its own but (0,2) 11: two; 009, 099, 999 none.
        Check.dueRows("order", cover, "000,111,101,999,099,009");
        Check.due("told goes with its row", cover.result(0, 2), -2);
        Check.due("acts", cover.count(10), 8);
        Check.due("mix 0 first by", cover.mix(0, 8), 0);
        Check.due("order again", cover.order(), 3);
    }

    private static void drawn() {
        // x: 12345, then 1406932606, then 654583775, so by 65536: 0, 21468, 9988.
        MixCover cover = Check.planned("levels 2 3 4");
        Check.due("drawn", cover.drawn(), 0 * 100 + 21468 % 3 * 10 + 9988 % 4);
        Check.due("x", cover.count(11), 654583775);
        Check.dueRows("drawn", cover, "000");
        Check.due("undone", cover.undo(), 0);
        Check.due("x again", cover.count(11), 0);
        // Of 1.1 and 1.2 alone: 21468 of 2 the rest is 0, so 1.1. One level left is a draw, too.
        MixCover never = Check.planned("levels 2 3 4;never 1.0;never 2.0;never 2.1;never 2.3");
        Check.due("drawn with nevers", never.drawn(), 12);
        Check.due("three draws", never.count(11), 654583775);
        for (int n = 2; n <= 64; n++) {
            never.drawn();
        }
        Check.due("rows", never.count(5), 64);
        int x = never.count(11);
        Check.due("a 65th", never.drawn(), NONE);
        Check.due("no draw", never.count(11), x);
    }

    private static void draws() {
        MixCover cover = new MixCover();
        Check.due("x at first", cover.draws(5), 0);
        Check.due("then", cover.draws(Integer.MAX_VALUE), 5);
        Check.due("below 0", cover.draws(-1), NONE);
        Check.due("stays", cover.count(11), Integer.MAX_VALUE);
        Check.due("not an act", cover.count(10), 0);
        Check.plan(cover, "levels 4 4");
        // 2147483647 is -1 of 2147483648, so that x becomes 12345 - 1103515245, of 2147483648 the rest.
        long first = 12345L - 1103515245L + 2147483648L;
        long second = (first * 1103515245L + 12345L) % 2147483648L;
        Check.due("drawn", cover.drawn(), first / 65536 % 4 * 10 + second / 65536 % 4);
        Check.due("x behind it", cover.count(11), second);
    }

    private static void gain() {
        MixCover cover = Check.planned("levels 2 2 2");
        cover.add(0);
        cover.add(1);
        cover.add(0);
        cover.add(990);
        cover.add(111);
        Check.due("first", cover.gain(0), 3);
        Check.due("second", cover.gain(1), 2);
        Check.due("the same again", cover.gain(2), 0);
        Check.due("free", cover.gain(3), 0);
        Check.due("last", cover.gain(4), 3);
        Check.due("no such row", cover.gain(5), NONE);
        Check.due("row -1", cover.gain(-1), NONE);
        cover.drop(0);
        Check.due("the same is now ahead", cover.gain(0), 3);
        Check.due("and gains less", cover.gain(1), 2);
    }

    private static void least() {
        Check.due("least", Check.planned("levels 2 3 4").least(), 12);
        Check.due("strength 1", Check.planned("levels 2 3 4;strength 1").least(), 4);
        Check.due("strength 3", Check.planned("levels 2 3 4;strength 3").least(), 24);
        Check.due("nevers", Check.planned("levels 2 3 4;never 1.0;never 2.0;never 2.1").least(), 4);
        Check.due("nevers of two", Check.planned("levels 2 2 2;never 0.0&1.0;never 1.0&2.0").least(), 4);
        Check.due("all sets have less", Check.planned("levels 2 2 2;never 0.0&1.0;never 1.1&2.0").least(), 3);
    }

    private static void lawful() {
        MixCover cover = Check.planned("levels 2 2 2;never 0.0&1.0;never 1.1&2.0");
        Check.due("all", cover.lawful(999), 4);
        Check.due("0.0", cover.lawful(99), 1);
        Check.due("0.1", cover.lawful(199), 3);
        Check.due("2.0", cover.lawful(990), 1);
        Check.due("whole", cover.lawful(111), 1);
        Check.due("none", cover.lawful(9), 0);
        Check.due("none besides", cover.lawful(90), 0);
        Check.due("no level", cover.lawful(299), NONE);
        Check.due("more digits", cover.lawful(1000), NONE);
        Check.due("below 0", cover.lawful(-5), NONE);
        Check.due("65536", Check.planned("levels 4 4 4 4 4 4 4 4").lawful(99999999), 65536);
        Check.due("without 1024", Check.planned("levels 4 4 4 4 4 4 4 4;never 0.0&3.1&7.3").lawful(99999999), 64512);
    }
}
