/**
 * The bounds of the TAPE and of the text that tells a PLAN (Terms, promises 1 to 4): each sentence that names one,
 * on both of its sides.
 */
public final class TextBounds {
    private static final int NONE = -1;
    private static final int MIN = Integer.MIN_VALUE;
    private static final int MAX = Integer.MAX_VALUE;

    private TextBounds() {
    }

    public static void main(String[] args) {
        tapeOf200Bytes();
        refusedFeedLeavesTheBytes();
        endWithinTheTape();
        textOf200Bytes();
        emptyText();
        twoToEightColumns();
        twoToFourLevels();
        numbersThatWrapAround();
        strengthOneToThree();
        strengthOfTheColumnsAtMost();
        strengthAtMostOnce();
        oneToThreeCells();
        twelveNevers();
        columnsThatThereAre();
        levelsThatThereAre();
        columnsNotInTheLineYet();
        wordsAndNumbersGoOn();
        eachByteAtEachKindOfPlace();
        blanksOrNone();
        textThatEndsEarly();
        theFirstPlaceAlongTheText();
        ofOnePlaceTheLeast();
        mixesUpTo1200();
        oneLawfulRowOrNone();
        faultsAheadOfKindFour();
        aFaultLeavesAllButTheTape();
        aPlanLeavesXAndShelves();
        Check.endOf("TextBounds");
    }

    private static void mixes(String text, int mixes) {
        MixCover cover = new MixCover();
        Check.due("plan \"" + text + "\"", Check.plan(cover, text), mixes);
        Check.due("it is the plan: \"" + text + "\"", cover.count(2), mixes);
        Check.due("the tape is empty behind \"" + text + "\"", cover.count(12), 0);
    }

    private static void fault(String text, int place, int kind) {
        MixCover cover = new MixCover();
        Check.due("plan \"" + text + "\"", Check.plan(cover, text), -2 - (8 * place + kind));
        Check.due("no columns by \"" + text + "\"", cover.count(0), 0);
        Check.due("the tape is empty behind \"" + text + "\"", cover.count(12), 0);
    }

    // Promise 2: "NONE, and none comes, if it would have more than 200."
    private static void tapeOf200Bytes() {
        for (int size = 0; size <= 200; size++) {
            MixCover cover = new MixCover();
            for (int i = 0; i < 10; i++) {
                Check.due("feed to " + 20 * (i + 1), cover.feed(MIN, MAX, -1, 0, 1), 20 * (i + 1));
            }
            cover.end(size);
            boolean fits = size + 20 <= 200;
            Check.due("feed behind " + size, cover.feed(1, 2, 3, 4, 5), fits ? size + 20 : NONE);
            Check.due("the tape then", cover.count(12), fits ? size + 20 : size);
        }
    }

    private static MixCover longTape(int blanks, String text) {
        MixCover cover = Check.planned("levels 2 3;never 0.0&1.2");
        cover.add(10);
        cover.keep(0);
        cover.end(0);
        Check.feed(cover, " ".repeat(blanks) + text);
        return cover;
    }

    private static void refusedFeedLeavesTheBytes() {
        int blank = 0x20202020;
        Twins.stay("feed behind 181", () -> longTape(171, "levels 3 2"), c -> c.feed(blank, blank, blank, blank, 57), NONE);
        Twins.stay("feed behind 190", () -> longTape(180, "levels 3 2"), c -> c.feed(MAX, MIN, 0, -1, 1), NONE);
        Twins.stay("feed behind 200", () -> longTape(190, "levels 3 2"), c -> c.feed(0, 0, 0, 0, 0), NONE);
        MixCover fits = longTape(170, "levels 3 2");
        Check.due("feed behind 180", fits.feed(0x20322020, blank, blank, blank, blank), 200);
        Check.due("its bytes are read", fits.plan(), 6 + 6 + 4);
    }

    // Promise 3: "NONE, and nothing happens, if it has not so many, or n is below 0."
    private static void endWithinTheTape() {
        MixCover none = new MixCover();
        Check.due("end(0) of an empty tape", none.end(0), 0);
        Check.due("end(1) of an empty tape", none.end(1), NONE);
        Check.due("end(-1) of an empty tape", none.end(-1), NONE);
        for (int n : new int[] {MIN, -201, -2, -1, 31, 32, 200, 201, MAX}) {
            Twins.stay("end(" + n + ") of 30 bytes", () -> longTape(20, "levels 3 2"), c -> c.end(n), NONE);
        }
        for (int n = 0; n <= 30; n++) {
            MixCover cover = longTape(20, "levels 3 2");
            Check.due("end(" + n + ") of 30 bytes", cover.end(n), n);
            Check.due("bytes behind end(" + n + ")", cover.count(12), n);
            Check.due("end(n + 1) then", cover.end(n + 1), NONE);
            Check.due("the first " + n + " bytes alone", cover.plan(), -2 - earlyEnd(n));
        }
        MixCover full = longTape(190, "levels 3 2");
        Check.due("end(201) of 200", full.end(201), NONE);
        Check.due("end(200) of 200", full.end(200), 200);
        Check.due("all of it is read", full.plan(), 6);
    }

    /** The fault of the first n bytes of twenty blanks and "levels 3 2"; -8, for 6 mixes, if there is none. */
    private static int earlyEnd(int n) {
        if (n == 30) {
            return -8;
        }
        boolean halfWord = n > 20 && n < 26;
        return 8 * (halfWord ? 20 : n) + 1;
    }

    // "A PLAN is told by a text of at most 200 bytes"; "the place behind its last byte".
    private static void textOf200Bytes() {
        mixes("levels 2 2" + " ".repeat(190), 4);
        mixes("levels 2 2" + " ".repeat(189), 4);
        mixes(" ".repeat(190) + "levels 2 2", 4);
        mixes("levels 2 " + "0".repeat(190) + "2", 4);
        mixes("levels 2 2;never 0." + "0".repeat(181), 4);
        mixes("levels 2 2;strength " + "0".repeat(179) + "1", 4);
        fault(" ".repeat(190) + "levels 2 5", 199, 2);
        fault(" ".repeat(190) + "levels 2 x", 199, 1);
        fault(" ".repeat(192) + "levels 2", 200, 1);
        fault(" ".repeat(191) + "levels 2;", 199, 1);
        fault("levels 2 2;" + " ".repeat(189), 200, 1);
        fault("levels 2 2;never 0.0;never 0.1" + " ".repeat(170), 200, 4);
        fault("levels 2 2;" + "x".repeat(189), 11, 1);
        fault("levels 2 " + "9".repeat(191), 9, 2);
        fault("x".repeat(200), 0, 1);
    }

    // "or the text ends (the place behind its last byte)", of no bytes at all.
    private static void emptyText() {
        fault("", 0, 1);
        fault(" ", 1, 1);
        Check.due("plan by a new object's tape", new MixCover().plan(), -3);
        MixCover cover = Check.planned("levels 2 2");
        Check.due("plan again by the empty tape", cover.plan(), -3);
        Check.due("columns stay", cover.count(0), 2);
        cover.feed(0x6c657665, 0x6c732032, 0x20322020, 0, 0);
        cover.end(0);
        Check.due("plan by a tape that was emptied", cover.plan(), -3);
    }

    // "2 to 8 COLUMNS"; "3 a ninth NUMBER of levels".
    private static void twoToEightColumns() {
        fault("levels", 6, 1);
        fault("levels 2", 8, 1);
        fault("levels 4;strength 1", 8, 1);
        for (int columns = 2; columns <= 8; columns++) {
            mixes("levels" + " 2".repeat(columns), columns * (columns - 1) / 2 * 4);
            MixCover cover = Check.planned("levels" + " 2".repeat(columns));
            Check.due("columns", cover.count(0), columns);
            Check.due("the last one", cover.levels(columns - 1), 2);
            Check.due("none behind it", cover.levels(columns), NONE);
        }
        fault("levels" + " 2".repeat(9), 23, 3);
        fault("levels" + " 2".repeat(10), 23, 3);
        fault("levels" + " 4".repeat(8) + "   4", 25, 3);
        fault("levels" + " 2".repeat(8) + " 002;strength 1", 23, 3);
        fault("levels" + " 2".repeat(8) + " x", 23, 1);
        mixes("levels" + " 2".repeat(8) + " ", 112);
    }

    // "each with 2 to 4 LEVELS"; "2 a NUMBER (where it begins) that is not as told".
    private static void twoToFourLevels() {
        for (int place = 0; place < 8; place++) {
            for (int levels = 0; levels <= 12; levels++) {
                String text = "levels" + " 2".repeat(place) + " " + levels + " 2".repeat(7 - place);
                if (levels >= 2 && levels <= 4) {
                    MixCover cover = Check.planned(text);
                    Check.due("levels by \"" + text + "\"", cover.levels(place), levels);
                    Check.due("mixes by \"" + text + "\"", cover.count(2), 21 * 4 + 7 * 2 * levels);
                } else {
                    fault(text, 7 + 2 * place, 2);
                }
            }
        }
    }

    // No number of digits makes a NUMBER that is too great one that is as told.
    private static void numbersThatWrapAround() {
        String[] great = {"10", "20", "22", "102", "258", "1002", "65538", "1000002", "4294967298", "4294967299",
            "8589934594", "18446744073709551618", "18446744073709551619", "340282366920938463463374607431768211458",
            "2147483650", "9".repeat(60), "2" + "0".repeat(64), "1" + "0".repeat(64) + "2"};
        for (String number : great) {
            fault("levels " + number + " 2", 7, 2);
            fault("levels 2 " + number, 9, 2);
            fault("levels 3 3 3;strength " + number, 22, 2);
            fault("levels 3 3 3;never " + number + ".1", 19, 2);
            fault("levels 3 3 3;never 1." + number, 21, 2);
        }
        fault("levels 3 3;never 4294967296.0", 17, 2);
        fault("levels 3 3;never 0.4294967296", 19, 2);
        fault("levels 3 3;strength 4294967297", 20, 2);
    }

    // "strength T (1 to 3, .. 2 without"
    private static void strengthOneToThree() {
        String four = "levels 2 2 2 2";
        fault(four + ";strength 0", 24, 2);
        mixes(four + ";strength 1", 8);
        mixes(four + ";strength 2", 24);
        mixes(four + ";strength 3", 32);
        fault(four + ";strength 4", 24, 2);
        fault(four + ";strength 9", 24, 2);
        for (int t = 1; t <= 3; t++) {
            Check.due("T", Check.planned(four + ";strength " + t).count(1), t);
        }
        mixes(four, 24);
        Check.due("T without", Check.planned(four).count(1), 2);
        Check.due("T without, behind a never", Check.planned(four + ";never 0.0").count(1), 2);
        MixCover cover = Check.planned(four + ";strength 3");
        Check.plan(cover, four);
        Check.due("T without, behind a plan with it", cover.count(1), 2);
    }

    // "the number of COLUMNS at most"
    private static void strengthOfTheColumnsAtMost() {
        mixes("levels 2 2;strength 1", 4);
        mixes("levels 2 2;strength 2", 4);
        fault("levels 2 2;strength 3", 20, 2);
        fault("levels 2 2;strength 4", 20, 2);
        mixes("levels 2 2 2;strength 3", 8);
        fault("levels 2 2 2;strength 4", 22, 2);
        fault("levels 2 2 2 2 2 2 2 2;strength 4", 32, 2);
        fault("levels 2 2 2 2 2 2 2 2;strength 8", 32, 2);
    }

    // "at most once"; "3 .. a second strength .. (the WORD's place)"
    private static void strengthAtMostOnce() {
        mixes("levels 2 2 2;strength 1", 6);
        fault("levels 2 2 2;strength 1;strength 1", 24, 3);
        fault("levels 2 2 2;strength 1;  strength 2", 26, 3);
        fault("levels 2 2 2;strength 2;never 0.0;strength 2", 34, 3);
        fault("levels 2 2 2;strength 1;strength", 24, 3);
        fault("levels 2 2 2;strength 1;strength 9", 24, 3);
        fault("levels 2 2 2;strength 1;strength;", 24, 3);
        fault("levels 2 2 2;strength 1;strengths 1", 24, 1);
        MixCover cover = Check.planned("levels 2 2 2;strength 1");
        Check.due("once in each text", Check.plan(cover, "levels 2 2 2;strength 3"), 8);
        Check.plan(cover, "levels 2 2;strength 1;strength");
        Check.due("once behind a fault", Check.plan(cover, "levels 2 2 2;strength 1"), 6);
    }

    // "1 to 3 CELLS"; "a fourth CELL (where it begins)"
    private static void oneToThreeCells() {
        String five = "levels 2 2 2 2 2";
        fault(five + ";never", 22, 1);
        fault(five + ";never ", 23, 1);
        fault(five + ";never;never 0.0", 22, 1);
        String[] cells = {"0.0", "0.0&1.0", "0.0&1.0&2.0"};
        int[] lawful = {16, 24, 28};
        for (int n = 0; n < 3; n++) {
            MixCover cover = Check.planned(five + ";never " + cells[n]);
            Check.due("nevers", cover.count(4), 1);
            Check.due("lawful rows beside " + (n + 1) + " cells", cover.lawful(99999), lawful[n]);
        }
        fault(five + ";never 0.0&1.0&2.0&3.0", 35, 3);
        fault(five + ";never 0.0&1.0&2.0&3.0&4.0", 35, 3);
        fault(five + ";never 0.0&1.0&2.0&  3", 37, 3);
        fault(five + ";never 0.0&1.0&2.0&", 35, 1);
        fault(five + ";never 0.0&1.0&2.0&;", 35, 1);
        mixes(five + ";never 0.0&1.0&2.0;never 3.0&4.0", 40);
    }

    // "12 such LINES at most"; "a 13th never (the WORD's place)"
    private static void twelveNevers() {
        String[] lines = {";never0.0", ";never0.0&1.0", ";never1.1"};
        for (int n = 0; n <= 12; n++) {
            MixCover cover = Check.planned("levels2 2" + lines[n % 3].repeat(n));
            Check.due("nevers", cover.count(4), n);
        }
        fault("levels2 2" + lines[0].repeat(13), 118, 3);
        fault("levels2 2" + lines[0].repeat(12) + ";strength 1; never", 130, 3);
        fault("levels2 2" + lines[0].repeat(12) + ";never;", 118, 3);
        fault("levels2 2" + lines[0].repeat(12) + ";nevers", 118, 1);
        fault("levels2 2" + lines[0].repeat(12) + ";", 118, 1);
        mixes("levels2 2" + lines[0].repeat(12) + ";strength 1", 4);
        // The twelfth binds as the first does.
        MixCover cover = Check.planned("levels2 2" + lines[0].repeat(11) + ";never1.1");
        Check.due("the first binds", cover.add(0), -2);
        Check.due("the twelfth binds", cover.add(11), -2);
        Check.due("what is left", cover.add(10), 1);
        Check.due("twelve again in another text", Check.plan(cover, "levels2 2" + lines[0].repeat(12)), 4);
    }

    // "CELL: COLUMN . LEVEL (NUMBERS; one that there is": the COLUMN.
    private static void columnsThatThereAre() {
        for (int columns = 2; columns <= 8; columns++) {
            String text = "levels" + " 2".repeat(columns) + ";never ";
            for (int column = 0; column <= 12; column++) {
                if (column < columns) {
                    mixes(text + column + ".0", columns * (columns - 1) / 2 * 4);
                } else {
                    fault(text + column + ".0", text.length(), 2);
                }
            }
            fault(text + "0.0&" + columns + ".0", text.length() + 4, 2);
        }
    }

    // "one that there is": the LEVEL, which is that COLUMN's.
    private static void levelsThatThereAre() {
        String text = "levels 2 3 4 2;never ";
        int[] levels = {2, 3, 4, 2};
        for (int column = 0; column < 4; column++) {
            for (int level = 0; level <= 11; level++) {
                String cell = column + "." + level;
                if (level < levels[column]) {
                    MixCover cover = Check.planned(text + cell);
                    int rest = 48 / levels[column] * (levels[column] - 1);
                    Check.due("lawful rows without " + cell, cover.lawful(9999), rest);
                } else {
                    fault(text + cell, 23, 2);
                    fault(text + (column == 0 ? "1.0&" : "0.0&") + cell, 27, 2);
                }
            }
        }
    }

    // "a COLUMN that the LINE has not yet"
    private static void columnsNotInTheLineYet() {
        String text = "levels 2 2 2 2;never ";
        mixes(text + "0.0&1.0", 24);
        fault(text + "0.0&0.0", 25, 2);
        fault(text + "0.0&0.1", 25, 2);
        fault(text + "3.1&3.0", 25, 2);
        mixes(text + "3.0&0.0&1.0", 24);
        fault(text + "3.0&0.0&3.0", 29, 2);
        fault(text + "3.0&0.0&0.1", 29, 2);
        fault(text + "3.0&0.0&  00.1", 31, 2);
        fault(text + "3.0&0.0&0", 29, 2);
        // Another LINE has them anew.
        mixes(text + "0.0;never 0.0", 24);
        mixes(text + "0.0&1.0;never 1.1&0.1;never 0.0", 24);
        mixes(text + "0.0&1.0&2.0;strength 1;never 0.1", 8);
    }

    // "WORDS are small letters, NUMBERS digits, as far as these go on"
    private static void wordsAndNumbersGoOn() {
        fault("levelsa 2 2", 0, 1);
        fault("levelslevels 2 2", 0, 1);
        fault("level s 2 2", 0, 1);
        fault("levels`2 2", 6, 1);
        fault("levels{2 2", 6, 1);
        fault("levelsA 2 2", 6, 1);
        mixes("levels2 2;never0.0;strength1", 4);
        fault("levels 2 2;neverstrength 1", 11, 1);
        fault("levels 2 2;strengthnever 1", 11, 1);
        fault("levels 2 2;strength 1never", 21, 1);
        fault("levels 2 2;strength 1 never", 22, 1);
        fault("levels 2 2strength 1", 10, 1);
        fault("levels 23 2", 7, 2);
        mixes("levels 2 3 2", 6 + 4 + 6);
        fault("levels 2 2/", 10, 1);
        fault("levels 2 2:", 10, 1);
        mixes("levels 002 00003", 6);
        mixes("levels 2 2;strength 01;never 00.000 & 001.01", 4);
    }

    // "1 a byte or WORD that can't stand there"; "blanks (32) stand between as one likes": each of 256 bytes.
    private static void eachByteAtEachKindOfPlace() {
        for (int b = 0; b < 256; b++) {
            String sign = String.valueOf((char) b);
            boolean digit = b >= '0' && b <= '9';
            boolean letter = b >= 'a' && b <= 'z';
            boolean blank = b == 32;
            either(sign + "levels 2 2", blank ? 4 : -2 - 1);
            if (digit) {
                either("levels" + sign + "2 2", b == '0' ? 4 : -2 - (8 * 6 + 2));
                either("levels 2 2" + sign, -2 - (8 * 9 + 2));
                either("levels 2" + sign + "2", -2 - (8 * 7 + 2));
                either("levels 2 2;never 0" + sign + ".0", b <= '1' ? 4 : -2 - (8 * 17 + 2));
                either("levels 2 2;never 0.0" + sign, b <= '1' ? 4 : -2 - (8 * 19 + 2));
                either("levels 2 2;strength 0" + sign, b == '1' || b == '2' ? 4 : -2 - (8 * 20 + 2));
            } else {
                either("levels" + sign + "2 2", blank ? 4 : -2 - (letter ? 1 : 8 * 6 + 1));
                either("levels 2 2" + sign, blank ? 4 : -2 - (8 * (b == ';' ? 11 : 10) + 1));
                either("levels 2" + sign + "2", blank ? 4 : -2 - (8 * 8 + 1));
                either("levels 2 2;never 0" + sign + ".0", blank ? 4 : -2 - (8 * (b == '.' ? 19 : 18) + 1));
                either("levels 2 2;never 0.0" + sign, blank ? 4 : -2 - (8 * (b == '&' || b == ';' ? 21 : 20) + 1));
                either("levels 2 2;never 0.0" + sign + "1.0", b == '&' ? 4
                        : -2 - (8 * (b == ';' || blank ? 21 : 20) + 1));
                either("levels 2 2;strength" + sign + "1", blank ? 4 : -2 - (8 * (letter ? 11 : 19) + 1));
                either("levels 2 2;" + sign + "strength 1", blank ? 4 : -2 - (8 * 11 + 1));
            }
        }
    }

    private static void either(String text, int due) {
        Check.due("plan \"" + text + "\"", Check.plan(new MixCover(), text), due);
    }

    // "blanks (32) stand between as one likes": none, one, many, at either end.
    private static void blanksOrNone() {
        String[] parts = {"", "levels", "2", "3", ";", "never", "0", ".", "1", "&", "1", ".", "2", ";", "strength", "1", ""};
        for (int wide = 0; wide < parts.length - 1; wide++) {
            StringBuilder text = new StringBuilder();
            for (int i = 0; i < parts.length; i++) {
                boolean twoNumbers = i == 2;
                text.append(parts[i]).append(i == wide ? " ".repeat(60) : twoNumbers ? " " : "");
            }
            MixCover cover = Check.planned(text.toString());
            Check.due("mixes by \"" + text + "\"", cover.count(2), 5);
            Check.due("its never", cover.add(12), -2);
        }
        fault("lev els 2 2", 0, 1);
        fault("levels 2 2;str ength 1", 11, 1);
        fault("levels 2 2;never 0.0 0", 21, 1);
        mixes("levels 2 2;never 0.0 ", 4);
    }

    // "or the text ends (the place behind its last byte)": at each place of a whole text.
    private static void textThatEndsEarly() {
        String text = "levels 2 3;strength 1;never 0.1&1.2";
        // Where it may end; where a WORD is cut it is wrong from its first byte on; else the text ends.
        String kinds = "ewwwwweeeeo" + "ewwwwwwweeo" + "ewwwweeeeoeeeo";
        for (int n = 0; n < text.length(); n++) {
            String part = text.substring(0, n);
            char kind = kinds.charAt(n);
            int word = n < 11 ? 0 : n < 22 ? 11 : 22;
            if (kind == 'o') {
                Check.planned(part);
            } else {
                fault(part, kind == 'w' ? word : n, 1);
                fault(part + "   ", kind == 'w' ? word : n + 3, 1);
            }
        }
        Check.planned(text);
    }

    // "of the first place along it that is wrong (0 the first byte), 8 times the place and"
    private static void theFirstPlaceAlongTheText() {
        fault("x", 0, 1);
        fault("levels 1 5 x", 7, 2);
        fault("levels 2 5 x", 9, 2);
        fault("levels 2 2 x 5", 11, 1);
        fault("levels 2 2;strength 9;never 9.9", 20, 2);
        fault("levels 2 2;never 9.9;strength 9", 17, 2);
        fault("levels 2 2;never 0.9&9.0", 19, 2);
        fault("levels 2 2;never 9x0", 17, 2);
        fault("levels 2 2;never 0x9", 18, 1);
        fault("levels 2 2;strength 3x", 20, 2);
        fault("levels 2 2;strength 1x", 21, 1);
        fault("levels 2 2;strength 1;strength 1;never 9.9", 22, 3);
        fault("levels 2 2;never 9.9;strength 1;strength 1", 17, 2);
        fault("levels 2 2 2 2 2 2 2 2 2;x", 23, 3);
        fault("levels 2 2 2 2 2 2 2 9 2", 21, 2);
        fault("levels 2 2 2 2;never 0.0&1.0&2.2&3.0", 31, 2);
        fault("levels 2 2 2 2;never 0.0&1.0&2.0&3.9", 33, 3);
    }

    // "Of one place the least."
    private static void ofOnePlaceTheLeast() {
        String eight = "levels 2 2 2 2 2 2 2 2 ";
        fault(eight + "2", 23, 3);
        fault(eight + "4", 23, 3);
        fault(eight + "1", 23, 2);
        fault(eight + "5", 23, 2);
        fault(eight + "22", 23, 2);
        String cells = "levels 2 2 2 2;never 0.0&1.0&2.0&";
        fault(cells + "3.0", 33, 3);
        fault(cells + "3x", 33, 3);
        fault(cells + "4.0", 33, 2);
        fault(cells + "0.0", 33, 2);
        fault(cells + "2.1", 33, 2);
        fault(cells + "x", 33, 1);
    }

    // "there are more than 1200 MIXES": 1196 and 1213 are the nearest that there can be.
    private static void mixesUpTo1200() {
        mixes("levels 2 2 3 4 4 4 4;strength 3", 1196);
        mixes("levels 4 4 4 4 3 2 2;strength 3", 1196);
        fault("levels 2 3 3 3 4 4 4;strength 3", 31, 4);
        fault("levels 4 4 4 3 3 3 2;strength 3", 31, 4);
        fault("levels 4 4 4 4 4 4;strength 3", 29, 4);
        fault("levels 4 4 4 4 4 4 4 4;strength 3", 33, 4);
        fault("levels 4 4 4 4 4 4 4 4;strength 3  ", 35, 4);
        // 1200 are counted by T as it is told in the end, and with what nevers forbid.
        fault("levels 4 4 4 4 4 4;strength 3;never 0.0;never 1.0;never 2.0", 59, 4);
        mixes("levels 4 4 4 4 4 4 4 4", 448);
        mixes("levels 4 4 4 4 4 4 4 4;strength 1", 32);
        MixCover most = Check.planned("levels 2 2 3 4 4 4 4;strength 3");
        Check.due("the last mix", most.mix(1195, 5), 3);
        Check.due("one more", most.mix(1196, 5), NONE);
    }

    // "or there is no LAWFUL row": one is enough.
    private static void oneLawfulRowOrNone() {
        StringBuilder text = new StringBuilder("levels 2 2 2");
        for (int i = 0; i < 7; i++) {
            text.append(";never0.").append(i / 4).append("&1.").append(i / 2 % 2).append("&2.").append(i % 2);
        }
        MixCover cover = Check.planned(text.toString());
        Check.due("seven of eight forbidden", cover.lawful(999), 1);
        Check.due("mixes that can be", cover.count(3), 3);
        fault(text + ";never0.1&1.1&2.1", 12 + 8 * 17, 4);
        mixes("levels 2 2;never 0.0;never 1.1", 4);
        fault("levels 2 2;never 0.0;never 0.1", 30, 4);
        fault("levels 2 2;never 0.0;never 1.1;never 0.1&1.0", 44, 4);
        mixes("levels 2 4;never 1.0;never 1.1;never 1.2", 8);
        fault("levels 2 4;never 1.0;never 1.1;never 1.2;never 1.3", 50, 4);
        // None is forbidden alone: 0.0 goes with neither of 1's, 0.1 with neither of 2's.
        mixes("levels 2 2 2;never 0.0&1.0;never 0.0&1.1;never 0.1&2.0", 12);
        fault("levels 2 2 2;never 0.0&1.0;never 0.0&1.1;never 0.1&2.0;never 0.1&2.1", 68, 4);
    }

    // "If there is none: 4"
    private static void faultsAheadOfKindFour() {
        fault("levels 2 2;never 0.0;never 0.1;", 31, 1);
        fault("levels 2 2;never 0.0;never 0.1;never 9.0", 37, 2);
        fault("levels 2 2;never 0.0;never 0.1;strength 1;strength 1", 42, 3);
        fault("levels 4 4 4 4 4 4;strength 3;strength 3", 30, 3);
        fault("levels 4 4 4 4 4 4;strength 3x", 29, 1);
        fault("levels 4 4 4 4 4 4;strength 3;never 0.4", 38, 2);
        // Both at once.
        fault("levels 4 4 4 4 4 2;strength 3;never 5.0;never 5.1", 49, 4);
        fault("levels 4 4 4 4 4 4 2;strength 3;never 6.0;never 6.1", 51, 4);
    }

    private static final String[] FAULTS = {"", "x", "levels 2", "levels 5 5", "levels 3 3;strength 3", "levels 3 3;never 0.3",
        "levels 2 2 2 2 2 2 2 2 2", "levels 3 3 3 3;never 0.0&1.0&2.0&3.0", "levels 3 3;strength 1;strength 1",
        "levels 3 3;never 0.0;never 0.1;never 0.2", "levels 4 4 4 4 4 4;strength 3", "levels 3 3 3;never 0.0;never 1.1;"};

    // Promise 4: "-2 - its FAULT, and but for the TAPE nothing happens."
    private static void aFaultLeavesAllButTheTape() {
        for (String text : FAULTS) {
            long due = Check.plan(new MixCover(), text);
            Check.due("\"" + text + "\" is no plan", due <= -3 ? 1 : 0, 1);
            Twins.areAlike("plan \"" + text + "\"", Samples::rich, c -> Check.plan(c, text), due, c -> c.end(0));
            Twins.areAlike("plan \"" + text + "\" of none", MixCover::new, c -> Check.plan(c, text), due, c -> c.end(0));
        }
    }

    // Promise 4: "no ROWS; nothing can be UNDONE; x, SHELVES stay"
    private static void aPlanLeavesXAndShelves() {
        MixCover cover = Samples.rich();
        int x = cover.count(11);
        Check.due("the rows ahead of it are some", cover.count(5) > 1 ? 1 : 0, 1);
        Check.due("another plan", Check.plan(cover, "levels 3 3 2;strength 3;never 2.1"), 18);
        int[] want = {3, 3, 18, 9, 1, 0, 0, 0, 0, 0, 0, x, 0};
        for (int what = 0; what < want.length; what++) {
            Check.due("count " + what, cover.count(what), want[what]);
        }
        Check.due("open", cover.open(), 9);
        Check.due("no row has mix 0", cover.mix(0, 7), 0);
        Check.due("undo", cover.undo(), NONE);
        MixCover other = Samples.rich();
        Check.due("shelf 0", cover.back(0), other.back(0));
        Check.dueText("its rows", Check.rows(cover), Check.rows(other));
        Check.due("shelf 1", cover.back(1), other.back(1));
        Check.dueText("its rows", Check.rows(cover), Check.rows(other));
        // The same PLAN again is another one, too.
        MixCover same = Check.planned("levels 2 2");
        same.add(0);
        same.result(0, 2);
        Check.due("the same plan again", Check.plan(same, "levels 2 2"), 4);
        Check.due("no rows", same.count(5), 0);
        Check.due("open", same.open(), 4);
        same.add(1);
        Check.due("a row anew is not told", same.count(9), 0);
    }
}
