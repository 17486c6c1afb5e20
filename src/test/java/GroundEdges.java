/** The edges of section 1 of the document: the ground, its cells, and the text. */
final class GroundEdges {
    private static final int BAD = HillStrokes.BAD, NO = HillStrokes.NO, FULL = HillStrokes.FULL,
        NONE = HillStrokes.NONE;
    private static final String SIZES = "THE GROUND has W columns and H rows (3 to 9 each)";
    private static final String CELLS = "of CELLS (x, y), x 0 to W - 1 to the right, y 0 to H - 1 downwards";
    private static final String DIRECTIONS = "DIRECTIONS are 0 up, 1 up and right, 2 right, 3 down and right, 4 down, "
        + "5 down and left, 6 left, 7 up and left";
    private static final String BESIDE = "the CELL beside one in a DIRECTION is one on that way (there may be none)";
    private static final String ROWS = "rF the HEIGHTS of the next row (0, 1, ..; H at most), F W figures";
    private static final String LIGHTS = "lABCD LIGHTS of the QUARTERS 0 to 3, a figure 0 to 7 each";
    private static final String SHADES = "sN N SHADES (2 to 6;";
    private static final String ITEMS = "A TEXT is ITEMS one behind the other, a ; behind each";
    private static final String FAULT = "FAULT: the place of the first letter of the first ITEM that is not so";
    private static final String LAID = "LAID is a TEXT without FAULT with a g (NO else;";

    /** A text with a fault there: it can not be laid, either. */
    private static void faulty(Due due, String text, int place) {
        HillStrokes h = Due.written(text);
        due.is("fault of " + text, h.fault(), place);
        due.is("lay of " + text, h.lay(), NO);
    }

    private static void faultless(Due due, String text, int cells) {
        HillStrokes h = Due.written(text);
        due.is("fault of " + text, h.fault(), NONE);
        due.is("lay of " + text, h.lay(), cells);
    }

    // ---- the ground

    @Edge(promise = {5, 25}, words = SIZES)
    static void everySizeOf3To9(Due due) {
        for (int columns = 3; columns <= 9; columns++) {
            for (int rows = 3; rows <= 9; rows++) {
                String size = columns + " by " + rows;
                HillStrokes h = Due.written("g" + columns + rows + ";");
                due.is("lay of " + size, h.lay(), columns * rows);
                due.is("W of " + size, h.count(0), columns);
                due.is("H of " + size, h.count(1), rows);
            }
        }
    }

    @Edge(promise = {4, 5}, words = SIZES)
    static void fewerThan3Columns(Due due) {
        faulty(due, "g23;", 0);
        faulty(due, "g13;", 0);
        faulty(due, "g03;", 0);
    }

    @Edge(promise = {4, 5}, words = SIZES)
    static void fewerThan3Rows(Due due) {
        faulty(due, "g32;", 0);
        faulty(due, "g31;", 0);
        faulty(due, "g30;", 0);
    }

    @Edge(promise = {4, 5}, words = SIZES)
    static void moreThan9ColumnsOrRows(Due due) {
        faulty(due, "g103;", 0);
        faulty(due, "g310;", 0);
        faulty(due, "g1010;", 0);
    }

    @Edge(promise = 10, words = CELLS)
    static void xGoesToTheRightAndYDownwards(Due due) {
        HillStrokes h = Due.laid("g43;r1234;r5678;r9012;");
        due.is("the first", h.cell(0, 0, 0), 1);
        due.is("the last of the first row", h.cell(3, 0, 0), 4);
        due.is("the first of the last row", h.cell(0, 2, 0), 9);
        due.is("the last", h.cell(3, 2, 0), 2);
    }

    @Edge(promise = {6, 10, 11, 12, 19, 20, 24}, words = CELLS)
    static void theFourCornersAreCells(Due due) {
        int[][] sizes = {{9, 3}, {3, 9}, {3, 3}, {9, 9}};
        for (int[] size : sizes) {
            HillStrokes h = Due.laid("g" + size[0] + size[1] + ";");
            for (int corner = 0; corner < 4; corner++) {
                int x = corner % 2 * (size[0] - 1), y = corner / 2 * (size[1] - 1);
                String at = " " + x + " " + y;
                due.is("raise" + at, h.raise(x, y, 0), NO);
                due.is("cell" + at, h.cell(x, y, 0), 0);
                due.is("flow" + at, h.flow(x, y, 1), 0);
                due.is("basin" + at, h.basin(x, y), 1);
                due.is("why" + at, h.why(x, y), 1);
                due.is("draw" + at, h.draw(x, y), NO);
                due.is("whose" + at, h.whose(x, y), NONE);
            }
        }
    }

    @Edge(promise = {6, 10, 11, 12, 19, 20, 24}, words = CELLS)
    static void oneBeyondASideIsNoCell(Due due) {
        int[][] sizes = {{9, 3}, {3, 9}, {3, 3}, {9, 9}};
        for (int[] size : sizes) {
            HillStrokes h = Due.laid("g" + size[0] + size[1] + ";");
            int[][] beyond = {{-1, 0}, {size[0], 0}, {0, -1}, {0, size[1]}, {size[0], size[1]}, {-1, -1},
                {Integer.MIN_VALUE, 0}, {Integer.MAX_VALUE, 0}, {0, Integer.MIN_VALUE}, {0, Integer.MAX_VALUE}};
            for (int[] c : beyond) {
                String at = " " + c[0] + " " + c[1];
                due.is("raise" + at, h.raise(c[0], c[1], 1), BAD);
                due.is("cell" + at, h.cell(c[0], c[1], 0), BAD);
                due.is("flow" + at, h.flow(c[0], c[1], 0), BAD);
                due.is("basin" + at, h.basin(c[0], c[1]), BAD);
                due.is("why" + at, h.why(c[0], c[1]), BAD);
                due.is("draw" + at, h.draw(c[0], c[1]), BAD);
                due.is("whose" + at, h.whose(c[0], c[1]), BAD);
            }
        }
    }

    @Edge(promise = {5, 10}, words = CELLS)
    static void cellsOfAGreaterGroundAheadAreGone(Due due) {
        HillStrokes h = Grounds.even(9, 9, 9);
        h.wipe();
        Due.write(h, "g33;");
        h.lay();
        due.is("cell 3 0", h.cell(3, 0, 0), BAD);
        due.is("cell 0 3", h.cell(0, 3, 0), BAD);
        due.is("heights together", h.count(10), 0);
    }

    @Edge(promise = 6, words = "each of a HEIGHT (0 to 9)")
    static void heightsFrom0To9(Due due) {
        HillStrokes h = Due.laid("g33;r555;");
        due.is("the lowest", h.raise(0, 0, 0), 5);
        due.is("the greatest", h.raise(0, 0, 9), 0);
        due.is("it is so", h.cell(0, 0, 0), 9);
        due.is("too small", h.raise(0, 0, -1), BAD);
        due.is("too large", h.raise(0, 0, 10), BAD);
        due.is("it is so still", h.cell(0, 0, 0), 9);
    }

    @Edge(promise = 1, words = "An object is used for at most 512 calls after it has been made; what later calls answer is free")
    static void the512thCallIsAnswered(Due due) {
        HillStrokes h = new HillStrokes();
        for (int call = 1; call <= 511; call++) {
            due.is("call " + call, h.raise(0, 0, call % 10), (call - 1) % 10);
        }
        due.is("call 512", h.undo(), 5);
    }

    @Edge(promise = {7, 13}, words = DIRECTIONS)
    static void directionsFrom0To7(Due due) {
        HillStrokes h = Due.laid("g33;l7070;");
        for (int q = 0; q < 4; q++) {
            due.is("the first", h.light(q, 0), q % 2 == 0 ? 7 : NO);
            due.is("the last", h.light(q, 7), 0);
            due.is("too small", h.light(q, -1), BAD);
            due.is("too large", h.light(q, 8), BAD);
            due.is("contrast by the first", h.contrast(q, 0), 0);
            due.is("contrast by the last", h.contrast(q, 7), 0);
            due.is("contrast by one too small", h.contrast(q, -1), BAD);
            due.is("contrast by one too large", h.contrast(q, 8), BAD);
        }
    }

    @Edge(promise = 10, words = DIRECTIONS)
    static void eachDirectionIsTheWayItIsCalled(Due due) {
        String[] lower = {"r545;r555;r555;", "r554;r555;r555;", "r555;r554;r555;", "r555;r555;r554;",
            "r555;r555;r545;", "r555;r555;r455;", "r555;r455;r555;", "r455;r555;r555;"};
        for (int d = 0; d < 8; d++) {
            due.is("the way down is " + d, Due.laid("g33;" + lower[d]).cell(1, 1, 4), d);
        }
    }

    @Edge(promise = {10, 25}, words = BESIDE)
    static void thereIsNoneBeyondTheSides(Due due) {
        int[][] sizes = {{3, 3}, {9, 9}, {9, 3}, {3, 9}};
        for (int[] size : sizes) {
            HillStrokes h = Grounds.even(size[0], size[1], 9);
            due.is("all are pits", h.count(7), size[0] * size[1]);
            due.is("none is a ridge", h.count(5), 0);
        }
        HillStrokes low = Due.laid("g99;");
        due.is("none is a river", low.count(6), 0);
    }

    @Edge(promise = 10, words = BESIDE)
    static void theLastColumnIsNotBesideTheFirst(Due due) {
        HillStrokes h = Grounds.even(9, 3, 9);
        h.raise(0, 1, 0);
        for (int y = 0; y < 3; y++) {
            due.is("down from the last column " + y, h.cell(8, y, 4), NONE);
        }
        due.is("down from the next column", h.cell(1, 1, 4), 6);
        h.raise(0, 1, 9);
        h.raise(8, 1, 0);
        for (int y = 0; y < 3; y++) {
            due.is("down from the first column " + y, h.cell(0, y, 4), NONE);
        }
        due.is("down from the last but one", h.cell(7, 1, 4), 2);
    }

    @Edge(promise = 10, words = BESIDE)
    static void theLastRowIsNotBesideTheFirst(Due due) {
        HillStrokes h = Grounds.even(3, 9, 9);
        h.raise(1, 0, 0);
        for (int x = 0; x < 3; x++) {
            due.is("down from the last row " + x, h.cell(x, 8, 4), NONE);
        }
        h.raise(1, 0, 9);
        h.raise(1, 8, 0);
        for (int x = 0; x < 3; x++) {
            due.is("down from the first row " + x, h.cell(x, 0, 4), NONE);
        }
    }

    // ---- the text

    @Edge(promise = {2, 25}, words = "THE TEXT is letters (200 at most)")
    static void letters200AtMost(Due due) {
        HillStrokes h = new HillStrokes();
        for (int i = 1; i <= 200; i++) {
            due.is("letter " + i, h.write(' '), i);
        }
        due.is("one more", h.write(' '), FULL);
        due.is("letters", h.count(9), 200);
    }

    @Edge(promise = {4, 5}, words = ITEMS)
    static void aTextWithoutItems(Due due) {
        HillStrokes h = new HillStrokes();
        due.is("fault of the empty text", h.fault(), NONE);
        due.is("lay of the empty text", h.lay(), NO);
    }

    @Edge(promise = {4, 5}, words = ITEMS)
    static void noSemicolonBehindTheLastItem(Due due) {
        faulty(due, "g33", 0);
        faulty(due, "g33;s4", 4);
        faulty(due, "g33;r123", 4);
        faulty(due, "g33;l0000", 4);
    }

    @Edge(promise = {4, 5}, words = ITEMS)
    static void noSemicolonBetweenItems(Due due) {
        faulty(due, "g33s4;", 0);
        faulty(due, "g33;s4s4;", 4);
        faulty(due, "g33;r123r123;", 4);
        faulty(due, "g33;l0000,s4;", 4);
    }

    @Edge(promise = {4, 5}, words = ITEMS)
    static void anItemWithoutLetters(Due due) {
        faulty(due, ";", 0);
        faulty(due, "g33;;", 4);
        faulty(due, "g33;s4;;", 7);
    }

    @Edge(promise = {4, 5}, words = ITEMS)
    static void blanksAndUnknownLetters(Due due) {
        faulty(due, " g33;", 0);
        faulty(due, "g33; ", 4);
        faulty(due, "g33; s4;", 4);
        faulty(due, "g33;s4 ;", 4);
        faulty(due, "G33;", 0);
        faulty(due, "g33;x4;", 4);
        faulty(due, "g33;R123;", 4);
    }

    @Edge(promise = {4, 5}, words = "gWH the columns, the rows, a figure each;")
    static void aFigureEach(Due due) {
        faultless(due, "g39;", 27);
        faulty(due, "g;", 0);
        faulty(due, "g3;", 0);
        faulty(due, "g333;", 0);
        // The signs just ahead of 0 and just behind 9.
        faulty(due, "g/3;", 0);
        faulty(due, "g3/;", 0);
        faulty(due, "g:3;", 0);
        faulty(due, "g3:;", 0);
    }

    @Edge(promise = {5, 25}, words = "gWH the columns, the rows, a figure each;")
    static void theColumnsAreAheadOfTheRows(Due due) {
        HillStrokes h = Due.laid("g48;");
        due.is("columns", h.count(0), 4);
        due.is("rows", h.count(1), 8);
    }

    @Edge(promise = {4, 5}, words = "told once,")
    static void toldTwice(Due due) {
        faulty(due, "g33;g33;", 4);
        faulty(due, "g33;s4;g44;", 7);
        faulty(due, "g33;r000;r000;r000;g33;", 19);
    }

    @Edge(promise = {4, 5}, words = "ahead of all others")
    static void notAheadOfAllOthers(Due due) {
        faulty(due, "r123;g33;", 0);
        faulty(due, "l7777;g33;", 0);
        faulty(due, "s4;g33;", 0);
    }

    @Edge(promise = {4, 5}, words = "ahead of all others")
    static void othersWithoutIt(Due due) {
        faulty(due, "r123;", 0);
        faulty(due, "l7777;", 0);
        faulty(due, "s4;", 0);
    }

    @Edge(promise = {4, 5}, words = ROWS)
    static void rowsHAtMost(Due due) {
        for (int rows = 3; rows <= 9; rows++) {
            String text = "g3" + rows + ";" + Grounds.rows(rows, "123");
            faultless(due, text, 3 * rows);
            faulty(due, text + "r123;", text.length());
        }
    }

    @Edge(promise = {4, 5}, words = ROWS)
    static void otherItemsAreNoRows(Due due) {
        String text = "g33;r123;s4;r123;l7777;r123;s4;";
        faultless(due, text, 9);
        faulty(due, text + "r123;", text.length());
    }

    @Edge(promise = {4, 5}, words = ROWS)
    static void figuresOneTooFewOrTooMany(Due due) {
        for (int columns = 3; columns <= 9; columns++) {
            String begin = "g" + columns + "3;r" + "5".repeat(columns - 1);
            faulty(due, begin + ";", 4);
            faultless(due, begin + "5;", 3 * columns);
            faulty(due, begin + "55;", 4);
        }
    }

    @Edge(promise = {4, 5}, words = ROWS)
    static void figuresFrom0To9(Due due) {
        faultless(due, "g33;r090;", 9);
        // The signs just ahead of 0 and just behind 9, in the first and the last place.
        faulty(due, "g33;r/00;", 4);
        faulty(due, "g33;r00/;", 4);
        faulty(due, "g33;r:00;", 4);
        faulty(due, "g33;r00:;", 4);
    }

    @Edge(promise = {5, 10}, words = ROWS)
    static void eachRowIsTheNext(Due due) {
        HillStrokes h = Due.laid("g33;r123;s2;r456;l0000;r789;");
        for (int i = 0; i < 9; i++) {
            due.is("height " + i, h.cell(i % 3, i / 3, 0), i + 1);
        }
    }

    @Edge(promise = {5, 10}, words = "of rows that are not told they are 0")
    static void rowsThatAreNotToldAre0(Due due) {
        HillStrokes h = Grounds.even(3, 9, 9);
        h.wipe();
        Due.write(h, "g39;r111;");
        due.is("lay", h.lay(), 27);
        for (int y = 0; y < 9; y++) {
            due.is("row " + y, h.cell(2, y, 0), y == 0 ? 1 : 0);
        }
        h.wipe();
        Due.write(h, "g39;");
        due.is("lay without rows", h.lay(), 27);
        due.is("nothing is up", h.count(10), 0);
    }

    @Edge(promise = {4, 5}, words = LIGHTS)
    static void lightsFrom0To7(Due due) {
        faultless(due, "g33;l0000;", 9);
        faultless(due, "g33;l7777;", 9);
        String[] faulty = {"l8000;", "l0008;", "l9000;", "l/000;", "l000/;"};
        for (String item : faulty) {
            faulty(due, "g33;" + item, 4);
        }
    }

    @Edge(promise = {4, 5}, words = LIGHTS)
    static void lightsOneTooFewOrTooMany(Due due) {
        faulty(due, "g33;l000;", 4);
        faulty(due, "g33;l00000;", 4);
        faulty(due, "g33;l;", 4);
    }

    @Edge(promise = {5, 7}, words = LIGHTS)
    static void lightsInTheOrderOfTheQuarters(Due due) {
        HillStrokes h = Due.laid("g33;l0246;");
        for (int q = 0; q < 4; q++) {
            due.is("light " + q, h.light(q, 2 * q), NO);
        }
    }

    @Edge(promise = {5, 7}, words = "(7777 without; of several the last one counts)")
    static void lightsThatAreNotTold(Due due) {
        HillStrokes h = Due.laid("g33;l0000;");
        h.wipe();
        Due.write(h, "g33;");
        h.lay();
        for (int q = 0; q < 4; q++) {
            due.is("light " + q, h.light(q, 7), NO);
        }
    }

    @Edge(promise = {5, 7}, words = "(7777 without; of several the last one counts)")
    static void lightsToldTwice(Due due) {
        HillStrokes h = Due.laid("g33;l0123;l4567;l3210;");
        for (int q = 0; q < 4; q++) {
            due.is("light " + q, h.light(q, 3 - q), NO);
        }
    }

    @Edge(promise = {4, 5, 25}, words = SHADES)
    static void shadesFrom2To6(Due due) {
        for (int n = 2; n <= 6; n++) {
            due.is("shades told", Due.laid("g33;s" + n + ";").count(2), n);
        }
        String[] faulty = {"s0;", "s1;", "s7;", "s9;", "s/;", "s:;"};
        for (String item : faulty) {
            faulty(due, "g33;" + item, 4);
        }
    }

    @Edge(promise = {4, 5}, words = SHADES)
    static void shadesWithNoFigureOrTwo(Due due) {
        faulty(due, "g33;s;", 4);
        faulty(due, "g33;s22;", 4);
    }

    @Edge(promise = {5, 25}, words = "4 without; of several the last one counts)")
    static void shadesThatAreNotTold(Due due) {
        HillStrokes h = Due.laid("g33;s6;");
        h.wipe();
        Due.write(h, "g33;");
        h.lay();
        due.is("shades told", h.count(2), 4);
    }

    @Edge(promise = {5, 25}, words = "4 without; of several the last one counts)")
    static void shadesToldTwice(Due due) {
        due.is("the last is greater", Due.laid("g33;s3;s2;s6;").count(2), 6);
        due.is("the last is smaller", Due.laid("g33;s3;s6;s2;").count(2), 2);
    }

    @Edge(promise = 4, words = FAULT)
    static void theFirstOfSeveralFaults(Due due) {
        faulty(due, "g33;s9;r1;s9;", 4);
        faulty(due, "g33;s2;r1;s9;", 7);
        faulty(due, "g33;s2;r111;s9;", 12);
        faulty(due, "x;g33;x;", 0);
    }

    @Edge(promise = 4, words = FAULT)
    static void thePlaceOfItsFirstLetterNotOfTheWrongOne(Due due) {
        faulty(due, "g33;r12x;", 4);
        faulty(due, "g33;l1238;", 4);
        faulty(due, "g3x;", 0);
    }

    @Edge(promise = 4, words = FAULT)
    static void inTheLastPlaceOfAFullText(Due due) {
        String text = "g33;" + "s4;".repeat(65) + "s";
        due.is("letters", text.length(), 200);
        faulty(due, text, 199);
        String cut = "g33;" + "s4;".repeat(64) + "r123";
        due.is("letters of a text whose last item is cut", cut.length(), 200);
        faulty(due, cut, 196);
    }

    @Edge(promise = {4, 5}, words = FAULT)
    static void noneInAFullText(Due due) {
        String text = "g33;r111;r222;" + "s4;".repeat(61) + "s5;";
        due.is("letters", text.length(), 200);
        faultless(due, text, 9);
        due.is("the last item counts", Due.laid(text).count(2), 5);
    }

    @Edge(promise = 4, words = FAULT)
    static void aFaultGoesWhenTheItemIsEnded(Due due) {
        HillStrokes h = Due.written("g33;s");
        due.is("not ended", h.fault(), 4);
        Due.write(h, "5");
        due.is("still not ended", h.fault(), 4);
        Due.write(h, ";");
        due.is("ended", h.fault(), NONE);
    }

    @Edge(promise = 5, words = LAID)
    static void nothingIsLaidOfATextWithAFault(Due due) {
        HillStrokes h = Due.written("g33;r999;l0000;s2;x");
        due.is("lay", h.lay(), NO);
        due.is("columns", h.count(0), 7);
        due.is("shades told", h.count(2), 4);
        due.is("a light", h.light(0, 7), NO);
        due.is("heights together", h.count(10), 106);
    }

    @Edge(promise = {1, 5}, words = "at first g77;r0012100;r0135310;r1258521;r1369631;r0257520;r0134310;r0011100;l7007;s4;)")
    static void whatIsLaidAtFirst(Due due) {
        HillStrokes h = new HillStrokes();
        HillStrokes told = Due.laid("g77;r0012100;r0135310;r1258521;r1369631;r0257520;r0134310;r0011100;l7007;s4;");
        told.wipe();
        due.holds("a new object is as that text laid", Due.state(h).equals(Due.state(told)));
        String heights = "0012100" + "0135310" + "1258521" + "1369631" + "0257520" + "0134310" + "0011100";
        for (int i = 0; i < 49; i++) {
            due.is("height " + i, h.cell(i % 7, i / 7, 0), heights.charAt(i) - '0');
        }
        int[] lights = {7, 0, 0, 7};
        for (int q = 0; q < 4; q++) {
            due.is("light " + q, h.light(q, lights[q]), NO);
        }
        due.is("shades told", h.count(2), 4);
    }
}
