/** The edges of section 3 of the document: shades and levels. */
final class ShadeEdges {
    private static final int BAD = HillStrokes.BAD, NONE = HillStrokes.NONE;
    private static final String GROUPS = "SHADES: TONES of all CELLS, the least first, are cut into N GROUPS, "
        + "like ones in one GROUP (N 2 to 6;";
    private static final String FEWER = "fewer, one for each, if there are not so many unlike ones)";
    private static final String MARK = "MARK of a GROUP: the middle one of its TONES, of an even number the lower middle.";
    private static final String ERROR = "ERROR: how far each TONE is from its MARK, all together.";
    private static final String FIRST = "THE SHADES are the cut of the least ERROR, of several the first (that whose "
        + "second GROUP begins with a lower TONE, then the third, ..).";
    private static final String HILLS = "HILLS are the pieces, by CELLS side by side (DIRECTIONS 0, 2, 4, 6), of CELLS "
        + "of HEIGHT v or more;";
    private static final String LINE = "its LINE is as long as there are two CELLS side by side one of which is so, "
        + "the other not.";

    /** Three like rows that rise to the right, by light from the right: a tone is nothing less EAST. */
    private static HillStrokes rising(String row, int n) {
        return Due.laid("g" + row.length() + "3;" + Grounds.rows(3, row) + "l2222;s" + n + ";");
    }

    /** The shades of the cells of the row in the middle. */
    private static void shadesOfRow(Due due, HillStrokes h, int... shades) {
        for (int x = 0; x < shades.length; x++) {
            due.is("shade of " + x, h.cell(x, 1, 9), shades[x]);
        }
    }

    private static void marks(Due due, HillStrokes h, int... marks) {
        due.is("groups", h.shade(-1), marks.length);
        for (int k = 0; k < marks.length; k++) {
            due.is("mark " + k, h.shade(k), marks[k] + 100);
        }
        due.is("one more", h.shade(marks.length), NONE);
    }

    // ---- shades

    @Edge(promise = {8, 17}, words = GROUPS)
    static void shadesFrom2To6(Due due) {
        HillStrokes h = new HillStrokes();
        due.is("one too few", h.shades(1), BAD);
        due.is("the fewest", h.shades(2), 4);
        due.is("groups", h.shade(-1), 2);
        due.is("the most", h.shades(6), 2);
        due.is("groups", h.shade(-1), 6);
        due.is("one too many", h.shades(7), BAD);
        due.is("error of one too few", h.error(1), BAD);
        due.is("error of one too many", h.error(7), BAD);
    }

    @Edge(promise = {10, 16}, words = GROUPS)
    static void likeTonesAreInOneGroup(Due due) {
        // Tones -1 (six) and 0 (twelve): to cut the twelve would not make the error less, nor may they be cut.
        HillStrokes h = rising("001111", 4);
        marks(due, h, -1, 0);
        shadesOfRow(due, h, 1, 0, 0, 1, 1, 1);
    }

    @Edge(promise = {10, 16}, words = GROUPS)
    static void theLeastAndTheGreatestTone(Due due) {
        HillStrokes dark = Due.laid("g33;r595;r950;r505;l7777;s6;");
        marks(due, dark, -18, -9, -5, 4, 8, 10);
        due.is("the darkest", dark.cell(1, 1, 9), 0);
        HillStrokes light = Due.laid("g33;r595;r950;r505;l3333;s6;");
        marks(due, light, -10, -8, -4, 4, 9, 18);
        due.is("the lightest", light.cell(1, 1, 9), 5);
    }

    @Edge(promise = {10, 16}, words = GROUPS)
    static void tonesOfAllQuartersByTheirLights(Due due) {
        // EAST is 1 2 2 1; in one quarter the light is from the right, so that its tones are below 0.
        String[] lights = {"2666", "6266", "6626", "6662"};
        for (int q = 0; q < 4; q++) {
            HillStrokes h = Due.laid("g43;" + Grounds.rows(3, "0123") + "l" + lights[q] + ";");
            marks(due, h, -2, -1, 1, 2);
            int[] shades = q % 2 == 0 ? new int[] {1, 0, 3, 2} : new int[] {2, 3, 0, 1};
            for (int x = 0; x < 4; x++) {
                due.is("shade of " + x + " by " + lights[q], h.cell(x, q / 2, 9), shades[x]);
            }
        }
    }

    @Edge(promise = {16, 17}, words = FEWER)
    static void oneToneAlone(Due due) {
        for (int n = 2; n <= 6; n++) {
            HillStrokes h = rising("555", n);
            marks(due, h, 0);
            due.is("error", h.shade(-2), 0);
            due.is("error of " + n, h.error(n), 0);
        }
    }

    @Edge(promise = {16, 17}, words = FEWER)
    static void asManyUnlikeTonesAsShades(Due due) {
        // Tones -7, -5, -3, -2, -1 and 0, six unlike ones.
        marks(due, rising("057899", 6), -7, -5, -3, -2, -1, 0);
        due.is("no error", rising("057899", 6).shade(-2), 0);
        marks(due, rising("026", 3), -6, -4, -2);
        marks(due, rising("0123", 2), -2, -1);
    }

    @Edge(promise = {16, 17}, words = FEWER)
    static void oneUnlikeToneFewerThanShades(Due due) {
        marks(due, rising("057899", 5), -7, -5, -3, -2, -1);
        due.is("error", rising("057899", 5).shade(-2), 3);
        marks(due, rising("026", 4), -6, -4, -2);
        marks(due, rising("0123", 3), -2, -1);
        due.is("no error", rising("0123", 3).error(3), 0);
    }

    @Edge(promise = 16, words = MARK)
    static void middleOfAnOddNumber(Due due) {
        // The first group is -11, -7, -6, -5, -4.
        due.is("of five", Due.laid("g33;r891;r733;r923;s2;").shade(0), 94);
        due.is("of nine like ones", Due.laid("g33;").shade(0), 100);
    }

    @Edge(promise = 16, words = MARK)
    static void lowerMiddleOfAnEvenNumber(Due due) {
        // The second group is 0, 1, 2, 4.
        due.is("of four", Due.laid("g33;r891;r733;r923;s2;").shade(1), 101);
        // Tones -6, -4, -2, three of each: the second group is the last six.
        due.is("of six", rising("026", 2).shade(1), 96);
    }

    @Edge(promise = {16, 17}, words = ERROR)
    static void errorIsTakenFromTheMarks(Due due) {
        due.is("three that are 2 off", rising("026", 2).shade(-2), 6);
        due.is("the same by error", rising("026", 5).error(2), 6);
        due.is("none with a mark for each", rising("026", 3).shade(-2), 0);
        due.is("5 1 0 1 2 off, and 1 0 1 3", Due.laid("g33;r891;r733;r923;s2;").shade(-2), 14);
    }

    @Edge(promise = {10, 16}, words = FIRST)
    static void theSecondBeginsLower(Due due) {
        // With 2 shades -4 can go with -6 or with -2 for an error of 6.
        HillStrokes two = rising("026", 2);
        due.is("error", two.shade(-2), 6);
        shadesOfRow(due, two, 1, 0, 1);
        // With 3, -4 and -3 or -1 and 0 can be together for an error of 3.
        HillStrokes three = rising("4588", 3);
        due.is("error", three.shade(-2), 3);
        shadesOfRow(due, three, 2, 0, 1, 2);
    }

    @Edge(promise = {10, 16}, words = FIRST)
    static void theThirdBeginsLower(Due due) {
        HillStrokes three = rising("2488", 3);
        due.is("error of 3", three.shade(-2), 6);
        shadesOfRow(due, three, 2, 0, 1, 2);
        HillStrokes four = rising("00159", 4);
        due.is("error of 4", four.shade(-2), 3);
        shadesOfRow(due, four, 3, 3, 1, 0, 2);
    }

    @Edge(promise = {10, 16}, words = FIRST)
    static void theFourthBeginsLower(Due due) {
        HillStrokes four = rising("01249", 4);
        due.is("error of 4", four.shade(-2), 3);
        shadesOfRow(due, four, 3, 3, 2, 0, 1);
    }

    @Edge(promise = {10, 16}, words = FIRST)
    static void theFifthBeginsLower(Due due) {
        HillStrokes five = rising("057899", 5);
        due.is("error of 5", five.shade(-2), 3);
        shadesOfRow(due, five, 1, 0, 2, 3, 4, 4);
    }

    @Edge(promise = {10, 16}, words = FIRST)
    static void theSixthBeginsLower(Due due) {
        // Tones -12 1 0, 0 4 -3, 3 1 5: 4 can go with 3 or with 5 for an error of 1.
        HillStrokes six = Due.laid("g33;r833;r193;r046;s6;");
        due.is("error of 6", six.shade(-2), 1);
        int[] shades = {0, 3, 2, 2, 5, 1, 4, 3, 5};
        for (int i = 0; i < 9; i++) {
            due.is("shade of " + i, six.cell(i % 3, i / 3, 9), shades[i]);
        }
    }

    @Edge(promise = 10, words = "SHADE of a CELL is the number of its GROUP, 0 the darkest.")
    static void theDarkestIs0(Due due) {
        HillStrokes h = rising("057899", 6);
        due.is("the least tone", h.cell(1, 1, 9), 0);
        due.is("the greatest tone", h.cell(5, 1, 9), 5);
        due.is("of the flat", Due.laid("g33;s6;").cell(1, 1, 9), 0);
    }

    // ---- levels

    @Edge(promise = 18, words = "LEVEL v (1 to 9):")
    static void levelsFrom1To9(Due due) {
        HillStrokes h = Grounds.even(3, 3, 9);
        for (int what = 0; what <= 2; what++) {
            due.is("too low, " + what, h.level(0, what), BAD);
            due.is("too high, " + what, h.level(10, what), BAD);
        }
        due.is("the lowest", h.level(1, 2), 9);
        due.is("the highest", h.level(9, 2), 9);
    }

    @Edge(promise = 18, words = HILLS)
    static void ofHeightVOrMore(Due due) {
        HillStrokes h = Due.laid("g33;r456;");
        due.is("lower than all", h.level(4, 2), 3);
        due.is("one is lower", h.level(5, 2), 2);
        due.is("as the highest", h.level(6, 2), 1);
        due.is("a hill of it", h.level(6, 0), 1);
        due.is("higher than all", h.level(7, 2), 0);
        due.is("no hill", h.level(7, 0), 0);
        due.is("no line", h.level(7, 1), 0);
    }

    @Edge(promise = 18, words = HILLS)
    static void byACornerTheyAreTwo(Due due) {
        due.is("down and right", Due.laid("g33;r900;r090;").level(9, 0), 2);
        due.is("down and left", Due.laid("g33;r090;r900;").level(9, 0), 2);
        due.is("right", Due.laid("g33;r990;").level(9, 0), 1);
        due.is("down", Due.laid("g33;r900;r900;").level(9, 0), 1);
        due.is("a board of 9 by 9",
            Due.laid("g99;" + "r909090909;r090909090;".repeat(4) + "r909090909;").level(9, 0), 41);
    }

    @Edge(promise = 18, words = HILLS)
    static void aHillThatWindsIsOne(Due due) {
        due.is("it winds", Due.laid("g55;r99999;r00009;r99999;r90000;r99999;").level(9, 0), 1);
        due.is("a ring", Due.laid("g33;r999;r909;r999;").level(9, 0), 1);
        due.is("all", Grounds.even(9, 9, 9).level(9, 0), 1);
    }

    @Edge(promise = 18, words = HILLS)
    static void theLastColumnIsNotBesideTheFirst(Due due) {
        HillStrokes h = Due.laid("g93;r000000009;r900000000;");
        due.is("two hills", h.level(9, 0), 2);
        due.is("and the line about both", h.level(9, 1), 5);
    }

    @Edge(promise = 18, words = LINE)
    static void noLineAtTheSides(Due due) {
        due.is("all are up", Grounds.even(3, 3, 9).level(9, 1), 0);
        due.is("none is up", Grounds.even(3, 3, 8).level(9, 1), 0);
        due.is("a corner is up", Due.laid("g33;r900;").level(9, 1), 2);
        due.is("the middle of a side is up", Due.laid("g33;r090;").level(9, 1), 3);
        due.is("the middle is up", Due.laid("g33;r000;r090;").level(9, 1), 4);
        due.is("the middle alone is not", Due.laid("g33;r999;r909;r999;").level(9, 1), 4);
    }

    @Edge(promise = 18, words = LINE)
    static void theLongestLine(Due due) {
        due.is("a board of 9 by 9",
            Due.laid("g99;" + "r909090909;r090909090;".repeat(4) + "r909090909;").level(9, 1), 144);
    }
}
