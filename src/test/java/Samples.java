/** Objects with much to lose, made by the same calls each time. */
final class Samples {
    private static final int NONE = -1;

    private Samples() {
    }

    /** Rows that passed and failed, free cells, both shelves, acts, an x, a tape that tells another plan. */
    static MixCover rich() {
        MixCover cover = new MixCover();
        shelve(cover);
        Check.plan(cover, "levels 2 3 2;never 0.0&1.2;never 1.1&2.1");
        cover.draws(271828);
        cover.add(110);
        cover.add(199);
        cover.add(1);
        cover.result(0, 2);
        cover.result(2, 1);
        cover.tell(1, 2, 0);
        Check.feed(cover, "levels 2 2 3");
        return cover;
    }

    private static void shelve(MixCover cover) {
        Check.plan(cover, "levels 3 2;strength 1");
        cover.draws(99);
        cover.add(21);
        cover.add(90);
        cover.result(1, 2);
        cover.keep(0);
        Check.plan(cover, "levels 2 2 2 2;never 3.0");
        cover.draws(5);
        cover.fill();
        cover.keep(1);
    }

    /** As many rows as there can be (as many as told), with acts that can be undone; much is open. */
    static MixCover withRows(int rows) {
        MixCover cover = new MixCover();
        shelve(cover);
        Check.plan(cover, "levels 2 3 2;never 0.0&1.2;never 1.1&2.1");
        for (int row = 0; row < rows; row++) {
            cover.add(row % 3 == 0 ? 110 : 199);
        }
        cover.result(1, 2);
        cover.result(rows - 1, 1);
        Check.feed(cover, "levels 2 2 3");
        return cover;
    }

    /** No shelf, no acts, no rows. */
    static MixCover bare() {
        MixCover cover = Check.planned("levels 2 3 2;never 0.0&1.2;never 1.1&2.1");
        cover.draws(31415);
        Check.feed(cover, "levels 2 2 3");
        return cover;
    }

    /** No plan, but an x and a tape. */
    static MixCover noPlan() {
        MixCover cover = new MixCover();
        cover.draws(31415);
        Check.feed(cover, "levels 2 2 3");
        return cover;
    }

    /** Nothing is open, and a row is not needed. */
    static MixCover closed() {
        MixCover cover = rich();
        cover.fill();
        cover.add(110);
        cover.tell(0, 2, NONE);
        cover.tell(0, 2, 0);
        return cover;
    }
}
