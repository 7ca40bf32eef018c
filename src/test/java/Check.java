/** What the tests of the project share: answers compared, texts fed. */
final class Check {
    private static int wrong = 0;
    private static int asked = 0;

    private Check() {
    }

    static void due(String call, long got, long want) {
        asked++;
        if (got != want) {
            wrong++;
            System.out.println(call + " answered " + got + ", due is " + want);
        }
    }

    static void dueText(String call, String got, String want) {
        asked++;
        if (!got.equals(want)) {
            wrong++;
            System.out.println(call + " answered \"" + got + "\", due is \"" + want + "\"");
        }
    }

    static void fails(String told) {
        wrong++;
        System.out.println(told);
    }

    static void endOf(String test) {
        System.out.println(test + ": " + asked + " answers, " + wrong + " not as due");
        if (wrong != 0) {
            System.exit(1);
        }
    }

    /** Feeds a text that the tape has room for and ends the tape behind it. */
    static void feed(MixCover cover, String text) {
        int size = cover.count(12);
        for (int i = 0; i < text.length(); i += 20) {
            cover.feed(four(text, i), four(text, i + 4), four(text, i + 8), four(text, i + 12), four(text, i + 16));
        }
        cover.end(size + text.length());
    }

    static int four(String text, int from) {
        int number = 0;
        for (int i = from; i < from + 4; i++) {
            number = number << 8 | (i < text.length() ? text.charAt(i) & 255 : 0);
        }
        return number;
    }

    static int plan(MixCover cover, String text) {
        cover.end(0);
        feed(cover, text);
        return cover.plan();
    }

    static MixCover planned(String text) {
        MixCover cover = new MixCover();
        int answer = plan(cover, text);
        if (answer < 0) {
            fails("no plan: " + text + ": " + answer);
        }
        return cover;
    }

    /** The digits of all rows, a comma between. */
    static String rows(MixCover cover) {
        StringBuilder told = new StringBuilder();
        int rows = cover.count(5);
        int columns = cover.count(0);
        for (int row = 0; row < rows; row++) {
            told.append(row == 0 ? "" : ",");
            for (int column = 0; column < columns; column++) {
                int level = cover.cell(row, column);
                told.append(level == MixCover.NONE ? "9" : String.valueOf(level));
            }
        }
        return told.toString();
    }

    static void dueRows(String call, MixCover cover, String want) {
        asked++;
        if (!rows(cover).equals(want)) {
            wrong++;
            System.out.println(call + " left the rows " + rows(cover) + ", due is " + want);
        }
    }
}
