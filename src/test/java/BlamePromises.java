/** Promises 26 to 32: results, guilt, acts undone, plans kept, counts. */
public final class BlamePromises {
    private static final int NONE = -1;

    private BlamePromises() {
    }

    public static void main(String[] args) {
        result();
        guilty();
        guiltyOfFewer();
        ask();
        undo();
        undoEachAct();
        notActs();
        keepAndBack();
        backToPlansThatAreAlike();
        count();
        Check.endOf("BlamePromises");
    }

    private static void result() {
        MixCover cover = Check.planned("levels 2 2");
        cover.add(0);
        Check.due("not told", cover.result(0, 0), -2);
        Check.due("passed", cover.result(0, 1), 0);
        Check.due("passed again", cover.result(0, 1), -2);
        Check.due("failed", cover.result(0, 2), 1);
        Check.due("not at all", cover.result(0, 0), 2);
        Check.due("acts", cover.count(10), 4);
        Check.due("how 3", cover.result(0, 3), NONE);
        Check.due("how -1", cover.result(0, -1), NONE);
        Check.due("no such row", cover.result(1, 1), NONE);
        Check.due("row -1", cover.result(-1, 1), NONE);
    }

    private static void guilty() {
        MixCover cover = Check.planned("levels 2 2 2");
        cover.add(0);
        cover.add(1);
        cover.add(110);
        Check.due("none failed: how many", cover.guilty(2, NONE), 0);
        Check.due("none failed: the first", cover.guilty(2, 0), -2);
        cover.result(0, 2);
        Check.due("all of a failed one", cover.guilty(2, NONE), 3);
        Check.due("(0,1)", cover.guilty(2, 0), 0);
        Check.due("(0,2)", cover.guilty(2, 1), 4);
        Check.due("(1,2)", cover.guilty(2, 2), 8);
        Check.due("one more", cover.guilty(2, 3), -2);
        cover.result(1, 1);
        Check.due("not that of one that passed", cover.guilty(2, NONE), 2);
        Check.due("the first left", cover.guilty(2, 0), 4);
        cover.result(1, 2);
        Check.due("of all that failed", cover.guilty(2, NONE), 1);
        Check.due("the one left", cover.guilty(2, 0), 0);
        cover.result(2, 2);
        Check.due("nothing all failed ones have", cover.guilty(2, NONE), 0);
        Check.due("more columns than T", cover.guilty(3, NONE), NONE);
        Check.due("no columns", cover.guilty(0, NONE), NONE);
        Check.due("k below NONE", cover.guilty(2, -2), NONE);
    }

    private static void guiltyOfFewer() {
        MixCover cover = Check.planned("levels 2 3 4;strength 3");
        cover.add(123);
        cover.add(199);
        cover.result(0, 2);
        // Of one column: 0 to 1, 2 to 4, 5 to 8; of two: 0 to 5, 6 to 13, 14 to 25.
        Check.due("of one", cover.guilty(1, NONE), 3);
        Check.due("0.1", cover.guilty(1, 0), 1);
        Check.due("1.2", cover.guilty(1, 1), 4);
        Check.due("2.3", cover.guilty(1, 2), 8);
        Check.due("of two", cover.guilty(2, NONE), 3);
        Check.due("0.1 1.2", cover.guilty(2, 0), 5);
        Check.due("0.1 2.3", cover.guilty(2, 1), 13);
        Check.due("1.2 2.3", cover.guilty(2, 2), 25);
        Check.due("of three", cover.guilty(3, 0), 23);
        cover.result(1, 1);
        Check.due("of one, 0.1 passed", cover.guilty(1, 0), 4);
        Check.due("how many then", cover.guilty(1, NONE), 2);
        Check.due("of two still", cover.guilty(2, NONE), 3);
        cover.tell(0, 2, NONE);
        Check.due("a free cell is in none", cover.guilty(3, NONE), 0);
        Check.due("of two then", cover.guilty(2, NONE), 1);
    }

    private static void ask() {
        MixCover cover = Check.planned("levels 2 2 2 2");
        Check.due("no rows", cover.ask(0), -2);
        cover.add(0);
        Check.due("nothing guilty", cover.ask(0), -2);
        cover.result(0, 2);
        Check.due("all told", cover.ask(0), -2);
        cover.add(1111);
        cover.add(11);
        cover.add(1);
        cover.add(1000);
        // Six are guilty; 1111 has none, 0011 one, 0001 and 1000 three each.
        Check.due("the row", cover.ask(0), 3);
        Check.due("the lesser number", cover.ask(1), 3);
        cover.result(3, 1);
        // Left are those with 3.0: (0,3), (1,3), (2,3); 1000 has two of them.
        Check.due("the row then", cover.ask(0), 4);
        Check.due("the lesser number then", cover.ask(1), 1);
        cover.result(4, 2);
        cover.result(2, 2);
        Check.due("nothing is guilty", cover.ask(0), -2);
        Check.due("nothing is guilty, what 1", cover.ask(1), -2);
        Check.due("what 2", cover.ask(2), NONE);
        Check.due("what -1", cover.ask(-1), NONE);
        MixCover none = Check.planned("levels 2 2");
        none.add(0);
        none.add(11);
        none.result(0, 2);
        Check.due("one that parts nothing", none.ask(0), 1);
        Check.due("a lesser number of 0", none.ask(1), 0);
    }

    private static void undo() {
        MixCover cover = Check.planned("levels 2 2 2");
        for (int i = 0; i < 10; i++) {
            cover.add(i < 5 ? 0 : 111);
        }
        Check.due("eight acts", cover.count(10), 8);
        for (int left = 7; left >= 0; left--) {
            Check.due("undo", cover.undo(), left);
        }
        Check.due("no more", cover.undo(), NONE);
        Check.dueRows("undo", cover, "000,000");
        Check.due("open", cover.open(), 9);
        cover.add(1);
        Check.due("an act anew", cover.undo(), 0);
        MixCover x = Check.planned("levels 2 2");
        x.draws(9);
        x.add(0);
        x.draws(7);
        Check.feed(x, "levels");
        x.keep(1);
        Check.due("undo", x.undo(), 0);
        Check.due("x as ahead of the act", x.count(11), 9);
        Check.due("the tape stays", x.count(12), 6);
        Check.due("the shelf stays", x.back(1), 1);
    }

    private static String stateOf(MixCover cover) {
        StringBuilder told = new StringBuilder(Check.rows(cover));
        for (int what = 0; what <= 12; what++) {
            told.append(' ').append(what == 10 ? 0 : cover.count(what));
        }
        return told.append(' ').append(cover.open()).append(' ').append(cover.mix(0, 8)).toString();
    }

    private static void act(MixCover cover, int act) {
        switch (act) {
            case 0: cover.add(991); break;
            case 1: cover.tell(0, 2, 0); break;
            case 2: cover.drop(0); break;
            case 3: cover.greed(); break;
            case 4: cover.fill(); break;
            case 5: cover.field(); break;
            case 6: cover.widen(4); break;
            case 7: cover.settle(); break;
            case 8: cover.thin(); break;
            case 9: cover.order(); break;
            case 10: cover.drawn(); break;
            case 11: cover.result(0, 1); break;
            case 12: cover.result(1, 2); break;
            default: cover.result(2, 0);
        }
    }

    private static void undoEachAct() {
        for (int act = 0; act <= 13; act++) {
            MixCover cover = Check.planned("levels 3 2 2");
            cover.add(999);
            cover.add(9);
            cover.add(1);
            cover.result(2, 1);
            String before = stateOf(cover);
            act(cover, act);
            Check.due("acts behind act " + act, cover.count(10), 5);
            if (stateOf(cover).equals(before)) {
                Check.fails("act " + act + " did nothing");
            }
            Check.due("undo of act " + act, cover.undo(), 4);
            if (!stateOf(cover).equals(before)) {
                Check.fails("act " + act + " undone: " + stateOf(cover) + ", due is " + before);
            }
        }
    }

    private static void notActs() {
        MixCover cover = Check.planned("levels 2 2");
        cover.add(0);
        cover.draws(4);
        cover.keep(0);
        cover.add(22);
        cover.tell(0, 0, 0);
        cover.drop(1);
        cover.hope(0);
        cover.widen(9);
        cover.result(0, 0);
        cover.guilty(1, 0);
        cover.ask(0);
        cover.feed(0, 0, 0, 0, 0);
        Check.due("one act alone", cover.count(10), 1);
        // These happen, though nothing is free, not needed or to be moved.
        cover.settle();
        cover.thin();
        cover.order();
        Check.due("three more", cover.count(10), 4);
    }

    private static void keepAndBack() {
        MixCover cover = Check.planned("levels 2 3;never 0.0&1.1;strength 1");
        cover.draws(6);
        cover.add(0);
        cover.add(12);
        cover.result(1, 2);
        Check.due("nothing kept", cover.back(0), -2);
        Check.due("acts stay", cover.count(10), 3);
        Check.due("keep", cover.keep(0), 2);
        Check.due("keep 2", cover.keep(2), NONE);
        Check.due("keep -1", cover.keep(-1), NONE);
        Check.due("back 2", cover.back(2), NONE);
        Check.due("back -1", cover.back(-1), NONE);
        Check.due("acts stay with keep", cover.count(10), 3);
        cover.draws(8);
        Check.plan(cover, "levels 4 4 4");
        cover.add(333);
        Check.due("keep on the other", cover.keep(1), 1);
        cover.add(0);
        Check.feed(cover, "ab");
        Check.due("back", cover.back(0), 2);
        Check.dueRows("back", cover, "00,12");
        Check.due("x", cover.count(11), 6);
        Check.due("T", cover.count(1), 1);
        Check.due("nevers", cover.add(1), -2);
        Check.due("failed", cover.count(9), 1);
        Check.due("open", cover.open(), 1);
        Check.due("tape stays", cover.count(12), 2);
        Check.due("nothing can be undone", cover.undo(), NONE);
        cover.add(99);
        Check.due("keep in its place", cover.keep(0), 3);
        Check.due("back to the other", cover.back(1), 1);
        Check.dueRows("back to the other", cover, "333");
        Check.due("x of the other", cover.count(11), 8);
        Check.due("back to the first", cover.back(0), 3);
        Check.due("back to it again", cover.back(0), 3);
    }

    private static void backToPlansThatAreAlike() {
        String[] plans = {"levels 2 3 2;never 0.0&1.0", "levels 2 3 2;never 0.1&1.0", "levels 2 3 2;never 0.0&1.1&2.0",
            "levels 2 3 2", "levels 2 3 2;never 0.0", "levels 3 2 2;never 0.0&1.0", "levels 2 3 2;never 0.0&1.0;strength 1",
            "levels 2 3 2;never 0.0&1.0;strength 3", "levels 2 3;never 0.0&1.0",
            "levels 2 3 2;never 0.0&1.0;never 1.0&2.0", "levels 2 3 2;never 0.0&1.0;never 1.1&2.0"};
        for (String from : plans) {
            for (String to : plans) {
                MixCover fresh = Check.planned(to);
                MixCover cover = Check.planned(to);
                cover.keep(0);
                Check.plan(cover, from);
                cover.back(0);
                String call = "from \"" + from + "\" back to \"" + to + "\": ";
                for (int what = 0; what <= 4; what++) {
                    Check.due(call + "count " + what, cover.count(what), fresh.count(what));
                }
                for (int mix = 0; mix < fresh.count(2); mix++) {
                    Check.due(call + "mix " + mix, cover.mix(mix, 6), fresh.mix(mix, 6));
                    Check.due(call + "its column", cover.mix(mix, 0), fresh.mix(mix, 0));
                    Check.due(call + "its level", cover.mix(mix, 4), fresh.mix(mix, 4));
                }
                cover.fill();
                fresh.fill();
                Check.dueRows(call + "fill", cover, Check.rows(fresh));
            }
        }
    }

    private static void count() {
        MixCover cover = Check.planned("levels 2 3 2;never 1.2;never 0.0&1.0;strength 2");
        cover.add(110);
        cover.add(910);
        cover.add(999);
        cover.add(101);
        cover.result(0, 1);
        cover.result(1, 2);
        cover.result(3, 2);
        cover.draws(12);
        cover.feed(0, 0, 0, 0, 0);
        // Of (0,1): 6 less 0.0 with 1.0, both with 1.2; of (0,2): 4; of (1,2): 6 less 2.
        int[] want = {3, 2, 16, 11, 2, 4, 2, 4, 1, 2, 7, 12, 20};
        for (int what = 0; what < want.length; what++) {
            Check.due("count " + what, cover.count(what), want[what]);
        }
        Check.due("count 13", cover.count(13), NONE);
        Check.due("count -1", cover.count(-1), NONE);
    }
}
