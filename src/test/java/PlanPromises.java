/** Promises 1 to 6: the tape, the plan and its faults, columns and mixes. */
public final class PlanPromises {
    private static final int NONE = -1;

    private PlanPromises() {
    }

    public static void main(String[] args) {
        Check.due("NONE", MixCover.NONE, -1);
        aNewObject();
        feed();
        end();
        plans();
        faultsOfBytes();
        faultsOfNumbers();
        faultsOfNumber();
        faultsOfAll();
        bytesBehindTheEnd();
        longestTexts();
        planInPlaceOfAnother();
        levels();
        mix();
        Check.endOf("PlanPromises");
    }

    private static void aNewObject() {
        MixCover cover = new MixCover();
        for (int what = 0; what <= 12; what++) {
            Check.due("new: count " + what, cover.count(what), 0);
        }
        Check.due("new: levels", cover.levels(0), NONE);
        Check.due("new: mix", cover.mix(0, 0), NONE);
        Check.due("new: add", cover.add(0), NONE);
        Check.due("new: tell", cover.tell(0, 0, 0), -4);
        Check.due("new: cell", cover.cell(0, 0), -2);
        Check.due("new: drop", cover.drop(0), NONE);
        Check.due("new: open", cover.open(), NONE);
        Check.due("new: openMix", cover.openMix(0), NONE);
        Check.due("new: hope", cover.hope(0), NONE);
        Check.due("new: greed", cover.greed(), NONE);
        Check.due("new: fill", cover.fill(), NONE);
        Check.due("new: field", cover.field(), NONE);
        Check.due("new: widen", cover.widen(2), NONE);
        Check.due("new: settle", cover.settle(), NONE);
        Check.due("new: thin", cover.thin(), NONE);
        Check.due("new: order", cover.order(), NONE);
        Check.due("new: drawn", cover.drawn(), NONE);
        Check.due("new: gain", cover.gain(0), NONE);
        Check.due("new: least", cover.least(), NONE);
        Check.due("new: lawful", cover.lawful(0), NONE);
        Check.due("new: result", cover.result(0, 1), NONE);
        Check.due("new: guilty", cover.guilty(1, NONE), NONE);
        Check.due("new: ask", cover.ask(0), NONE);
        Check.due("new: undo", cover.undo(), NONE);
        Check.due("new: keep", cover.keep(0), NONE);
        Check.due("new: back", cover.back(0), -2);
        Check.due("new: back 2", cover.back(2), NONE);
        Check.due("new: draws", cover.draws(0), 0);
    }

    private static void feed() {
        MixCover cover = new MixCover();
        for (int i = 1; i <= 10; i++) {
            Check.due("feed " + i, cover.feed(1, 2, 3, 4, 5), 20 * i);
        }
        Check.due("feed beyond 200", cover.feed(1, 2, 3, 4, 5), NONE);
        Check.due("tape stays", cover.count(12), 200);
        cover.end(181);
        Check.due("feed at 181", cover.feed(1, 2, 3, 4, 5), NONE);
        cover.end(180);
        Check.due("feed at 180", cover.feed(1, 2, 3, 4, 5), 200);
        MixCover high = new MixCover();
        // The highest byte first: "leve" "ls 2" " 2  " and blanks.
        high.feed(0x6c657665, 0x6c732032, 0x20322020, 0x20202020, 0x20202020);
        Check.due("plan by twenty bytes", high.plan(), 4);
    }

    private static void end() {
        MixCover cover = new MixCover();
        Check.due("end 0 of none", cover.end(0), 0);
        Check.due("end 1 of none", cover.end(1), NONE);
        cover.feed(0, 0, 0, 0, 0);
        Check.due("end -1", cover.end(-1), NONE);
        Check.due("end 21", cover.end(21), NONE);
        Check.due("stays 20", cover.count(12), 20);
        Check.due("end 20", cover.end(20), 20);
        Check.due("end 7", cover.end(7), 7);
        Check.due("has 7", cover.count(12), 7);
        Check.due("end 8 then", cover.end(8), NONE);
    }

    private static void dueMixes(String text, int mixes) {
        Check.due("plan \"" + text + "\"", Check.plan(new MixCover(), text), mixes);
    }

    private static void dueFault(String text, int place, int kind) {
        Check.due("plan \"" + text + "\"", Check.plan(new MixCover(), text), -2 - (8 * place + kind));
    }

    private static void plans() {
        dueMixes("levels 2 2", 4);
        dueMixes("levels 2 3 4", 6 + 8 + 12);
        dueMixes("levels2 2", 4);
        dueMixes("  levels  2   2  ", 4);
        dueMixes("levels 02 0000000000000000003", 6);
        dueMixes("levels 2 3 4;strength 1", 9);
        dueMixes("levels 2 3 4;strength 3", 24);
        dueMixes("levels 2 2;strength2", 4);
        dueMixes("levels 4 4 4 4 4 4 4 4", 448);
        dueMixes("levels 2 2;never0.0", 4);
        dueMixes("levels 2 2 2 ; never 0 . 0 & 1 . 1&2.0 ;strength 3", 8);
        dueMixes("levels 2 2;never 0.00&001.1", 4);
        dueMixes("levels2 2" + ";never0.0".repeat(12), 4);
        dueMixes("levels 2 2 3 4 4 4 4;strength 3", 1196);
        dueMixes("levels 2 2 2;never 0.0;strength 1;never 0.0", 6);
    }

    private static void faultsOfBytes() {
        dueFault("", 0, 1);
        dueFault("   ", 3, 1);
        dueFault("level 2 2", 0, 1);
        dueFault(" levelsx 2 2", 1, 1);
        dueFault("Levels 2 2", 0, 1);
        dueFault("strength 2", 0, 1);
        dueFault("2 2", 0, 1);
        dueFault("levels", 6, 1);
        dueFault("levels ", 7, 1);
        dueFault("levels 2", 8, 1);
        dueFault("levels 2  ", 10, 1);
        dueFault("levels ;", 7, 1);
        dueFault("levels 2 ;never", 9, 1);
        dueFault("levels x", 7, 1);
        dueFault("levels 2 2 strength 1", 11, 1);
        dueFault("levels 2 2x", 10, 1);
        dueFault("levelsa 2 2", 0, 1);
        dueFault("levelsz 2 2", 0, 1);
        dueFault("levels` 2 2", 6, 1);
        dueFault("levels{ 2 2", 6, 1);
        dueFault("levels 2 2/", 10, 1);
        dueFault("levels 2 2:", 10, 1);
        dueFault("levels 2 2.", 10, 1);
        dueFault("levels 2 2\0", 10, 1);
        dueFault("levels 2 2;", 11, 1);
        dueFault("levels 2 2; ", 12, 1);
        dueFault("levels 2 2;;", 11, 1);
        dueFault("levels 2 2;2", 11, 1);
        dueFault("levels 2 2;levels 2 2", 11, 1);
        dueFault("levels 2 2;nevers 0.0", 11, 1);
        dueFault("levels 2 2;strengt 2", 11, 1);
        dueFault("levels 2 2;strength", 19, 1);
        dueFault("levels 2 2;strength x", 20, 1);
        dueFault("levels 2 2;strength 1 2", 22, 1);
        dueFault("levels 2 2;never", 16, 1);
        dueFault("levels 2 2;never 0", 18, 1);
        dueFault("levels 2 2;never 0 0", 19, 1);
        dueFault("levels 2 2;never 0.", 19, 1);
        dueFault("levels 2 2;never 0.;", 19, 1);
        dueFault("levels 2 2;never 0.0 1.0", 21, 1);
        dueFault("levels 2 2;never 0.0&", 21, 1);
        dueFault("levels 2 2;never 0.0&&1.0", 21, 1);
        dueFault("levels 2 2;never 0.0&x", 21, 1);
        dueFault("levels 2 2 2 2;never 0.0&1.0&2.0&", 33, 1);
    }

    private static void faultsOfNumbers() {
        dueFault("levels 1 2", 7, 2);
        dueFault("levels 2 5", 9, 2);
        dueFault("levels 2 22", 9, 2);
        dueFault("levels 2 4294967298", 9, 2);
        dueFault("levels 2 0", 9, 2);
        dueFault("levels 2 2;strength 0", 20, 2);
        dueFault("levels 2 2;strength 3", 20, 2);
        dueFault("levels 2 2 2 2;strength 4", 24, 2);
        dueFault("levels 2 2;never 2.0", 17, 2);
        dueFault("levels 2 2;never 0.2", 19, 2);
        dueFault("levels 2 3;never 1.3", 19, 2);
        dueFault("levels 2 2;never 0.0&0.1", 21, 2);
        dueFault("levels 2 2;never 0.0&1.0&0.0", 25, 2);
        dueFault("levels 2 2 2 2;never 0.0&1.0&2.0&1.1", 33, 2);
        dueFault("levels 2 2 2 2;never 0.0&1.0&2.0&4.1", 33, 2);
        dueFault("levels 2 2 2 2 2 2 2 2 5", 23, 2);
    }

    private static void faultsOfNumber() {
        dueFault("levels 2 2 2 2 2 2 2 2 2", 23, 3);
        dueFault("levels 2 2 2 2;never 0.0&1.0&2.0& 3.0", 34, 3);
        dueFault("levels 2 2 2 2;never 0.0&1.0&2.0&3", 33, 3);
        dueFault("levels 2 2;strength 1;strength 1", 22, 3);
        dueFault("levels 2 2;strength 1; strength", 23, 3);
        dueFault("levels2 2" + ";never0.0".repeat(13), 118, 3);
    }

    private static void faultsOfAll() {
        dueFault("levels 2 2;never 0.0;never 0.1", 30, 4);
        dueFault("levels 2 2;never 0.0;never 0.1 ", 31, 4);
        dueFault("levels 2 2;never0.0&1.0;never0.0&1.1;never0.1&1.0;never0.1&1.1", 62, 4);
        dueFault("levels 4 4 4 4 4 4;strength 3", 29, 4);
    }

    /** What end() took from the tape is not read. */
    private static void bytesBehindTheEnd() {
        String[] texts = {"levels 2 222", "levels 2 2;;", "levels 2 2 3", "levels 2 2;never 0.0"};
        for (String text : texts) {
            MixCover cover = new MixCover();
            Check.feed(cover, text);
            cover.end(10);
            Check.due("ten bytes of " + text, cover.plan(), 4);
            Check.feed(cover, text);
            cover.end(8);
            Check.due("eight bytes of " + text, cover.plan(), -2 - 65);
        }
        MixCover words = new MixCover();
        Check.feed(words, "levels 2 2");
        words.end(5);
        Check.due("five bytes", words.plan(), -3);
        Check.feed(words, "levels 2 2;never 0.0&1.0");
        words.end(20);
        Check.due("twenty bytes", words.plan(), 4);
        Check.feed(words, "levels 2 2;never 0.0&1.0");
        words.end(19);
        Check.due("nineteen bytes", words.plan(), -2 - (8 * 19 + 1));
    }

    /** The last byte of the tape is a part of each kind of sign. */
    private static void longestTexts() {
        String text = "levels 2 2 2;strength 1";
        dueMixes(text + " ".repeat(200 - text.length()), 6);
        dueMixes("levels 2 2 2;strength" + "0".repeat(178) + "1", 6);
        dueMixes("levels 2 " + " ".repeat(190) + "2", 4);
        dueFault(" ".repeat(200), 200, 1);
        dueFault(" ".repeat(194) + "levels", 200, 1);
        dueFault(" ".repeat(195) + "level", 195, 1);
        dueFault("levels 2 2" + " ".repeat(189) + ";", 200, 1);
        dueFault("levels 2 2;never 0" + " ".repeat(181) + ".", 200, 1);
        dueFault("levels 2 2;never 0.0" + " ".repeat(179) + "&", 200, 1);
        dueFault("levels 2 2;strength 1" + " ".repeat(178) + "2", 199, 1);
    }

    private static void planInPlaceOfAnother() {
        MixCover cover = Check.planned("levels 2 2 2;never 0.0&1.0;strength 1");
        cover.draws(77);
        cover.add(999);
        cover.add(110);
        cover.keep(1);
        Check.due("a fault", Check.plan(cover, "levels 2 9"), -2 - 74);
        Check.due("tape is empty behind a fault", cover.count(12), 0);
        Check.due("rows stay", cover.count(5), 2);
        Check.due("acts stay", cover.count(10), 2);
        Check.due("nevers stay", cover.count(4), 1);
        Check.due("T stays", cover.count(1), 1);
        Check.due("mixes stay", cover.count(2), 6);
        Check.due("can't be, as before", cover.add(0), -2);
        Check.due("another plan", Check.plan(cover, "levels 3 3"), 9);
        Check.due("tape is empty", cover.count(12), 0);
        Check.due("no rows", cover.count(5), 0);
        Check.due("no acts", cover.undo(), NONE);
        Check.due("no nevers", cover.count(4), 0);
        Check.due("T without a strength", cover.count(1), 2);
        Check.due("nothing is covered", cover.open(), 9);
        Check.due("x stays", cover.count(11), 77);
        Check.due("shelves stay", cover.back(1), 2);
        Check.due("columns are back", cover.count(0), 3);
    }

    private static void levels() {
        MixCover cover = Check.planned("levels 2 4 3");
        Check.due("levels 0", cover.levels(0), 2);
        Check.due("levels 1", cover.levels(1), 4);
        Check.due("levels 2", cover.levels(2), 3);
        Check.due("levels 3", cover.levels(3), NONE);
        Check.due("levels -1", cover.levels(-1), NONE);
        Check.due("levels of the least int", cover.levels(Integer.MIN_VALUE), NONE);
    }

    private static void mix() {
        // (0,1): 0 to 5, (0,2): 6 to 9, (1,2): 10 to 15.
        MixCover cover = Check.planned("levels 2 3 2;never 1.2");
        int[][] want = {{0, 0, 1, 0, 0}, {5, 0, 1, 1, 2}, {6, 0, 2, 0, 0}, {8, 0, 2, 1, 0}, {10, 1, 2, 0, 0}, {15, 1, 2, 2, 1}};
        for (int[] w : want) {
            Check.due("mix " + w[0] + " column 0", cover.mix(w[0], 0), w[1]);
            Check.due("mix " + w[0] + " column 1", cover.mix(w[0], 1), w[2]);
            Check.due("mix " + w[0] + " column 2", cover.mix(w[0], 2), -2);
            Check.due("mix " + w[0] + " level 0", cover.mix(w[0], 3), w[3]);
            Check.due("mix " + w[0] + " level 1", cover.mix(w[0], 4), w[4]);
            Check.due("mix " + w[0] + " level 2", cover.mix(w[0], 5), -2);
        }
        Check.due("mix 5 can't be", cover.mix(5, 6), 0);
        Check.due("mix 4 can be", cover.mix(4, 6), 1);
        Check.due("mix 0 not had", cover.mix(0, 7), 0);
        Check.due("mix 0 by none first", cover.mix(0, 8), -2);
        cover.add(119);
        cover.add(9);
        cover.add(1);
        Check.due("mix 0 had twice", cover.mix(0, 7), 2);
        Check.due("mix 0 first by 1", cover.mix(0, 8), 1);
        Check.due("mix 4 had once", cover.mix(4, 7), 1);
        Check.due("mix 4 first by 0", cover.mix(4, 8), 0);
        Check.due("mix 11 is had by the last", cover.mix(11, 8), 2);
        Check.due("mix 16", cover.mix(16, 0), NONE);
        Check.due("mix -1", cover.mix(-1, 0), NONE);
        Check.due("what 9", cover.mix(0, 9), NONE);
        Check.due("what -1", cover.mix(0, -1), NONE);
        MixCover three = Check.planned("levels 2 2 2 2;strength 3");
        Check.due("mix 13 of (0,1,3)", three.mix(13, 2), 3);
        Check.due("its last level", three.mix(13, 5), 1);
        Check.due("its middle level", three.mix(13, 4), 0);
        Check.due("its first level", three.mix(13, 3), 1);
        // What nevers forbid besides: 0.0 leaves 1 no level with 2.0.
        MixCover besides = Check.planned("levels 2 2 2;never 0.0&1.0;never 1.1&2.0");
        Check.due("0.0 with 2.0 can't be", besides.mix(4, 6), 0);
        Check.due("0.0 with 2.1 can be", besides.mix(5, 6), 1);
    }
}
