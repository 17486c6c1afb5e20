/** The edges of section 4 of the document up to HATCHED: strokes, where they begin and end. */
final class StrokeEdges {
    private static final int BAD = HillStrokes.BAD, NO = HillStrokes.NO, NONE = HillStrokes.NONE;
    private static final String LENGTH = "A STROKE is a row of CELLS, 2 to 6.";
    private static final String KEPT_OFF = "KEPT OFF is a CELL that is no CELL of a STROKE nor beside one in any DIRECTION.";
    private static final String ENDS = "It goes DOWN from CELL to CELL till it ENDS:";
    private static final String NUMBERS = "STROKES 0, 1, .. (20 at most) are numbered as they are drawn;";
    private static final String HATCHED = "HATCHED: again and again of all CELLS in which a STROKE can begin the STEEPEST "
        + "one begins it";
    /** The middle row is a river that falls to the right. */
    private static final String VALLEY = "g53;r98765;r33321;r98765;";

    // ---- how long, and what is kept off

    @Edge(promise = {20, 23}, words = LENGTH)
    static void theShortestStroke(Due due) {
        HillStrokes h = Grounds.slope(3);
        due.is("draw beside a pit", h.draw(7, 1), 0);
        due.is("cells", h.stroke(0, -1), 2);
    }

    @Edge(promise = {20, 23}, words = LENGTH)
    static void theLongestStroke(Due due) {
        HillStrokes h = Grounds.slope(3);
        due.is("draw on a way of nine", h.draw(0, 1), 0);
        due.is("cells", h.stroke(0, -1), 6);
        due.is("the sixth", h.stroke(0, 5), 14);
        due.is("no seventh", h.stroke(0, 6), NONE);
        due.is("nobody has the next", h.whose(6, 1), NONE);
    }

    @Edge(promise = 19, words = KEPT_OFF)
    static void aStrokeKeepsOffTheCellsAboutIt(Due due) {
        HillStrokes h = Grounds.slope(9);
        h.draw(2, 4);
        // It has the cells 2 to 7 of row 4.
        for (int y = 0; y < 9; y++) {
            boolean near = y >= 3 && y <= 5;
            for (int x = 0; x < 9; x++) {
                int why = x == 8 ? 1 : !near ? 0 : x == 0 ? 4 : 3;
                due.is("why " + x + " " + y, h.why(x, y), why);
            }
        }
    }

    @Edge(promise = 19, words = KEPT_OFF)
    static void besideInEachDirection(Due due) {
        // What ended the stroke is rubbed out, so that it has the cells 3 and 4 of row 4 alone.
        HillStrokes h = Grounds.slope(9);
        h.draw(6, 4);
        h.draw(3, 4);
        h.rub(0);
        due.is("cells", h.count(4), 2);
        for (int y = 0; y < 9; y++) {
            boolean near = y >= 3 && y <= 5;
            for (int x = 0; x < 8; x++) {
                int why = !near ? 0 : x >= 2 && x <= 5 ? 3 : x == 1 ? 4 : 0;
                due.is("why " + x + " " + y, h.why(x, y), why);
            }
        }
    }

    @Edge(promise = 19, words = KEPT_OFF)
    static void theLastColumnIsNotBesideTheFirst(Due due) {
        HillStrokes h = Grounds.slope(9);
        h.draw(4, 4);
        due.is("it ends in the last column", h.stroke(0, 4), 44);
        for (int y = 3; y <= 6; y++) {
            due.is("the first column " + y, h.why(0, y), 0);
        }
    }

    // ---- why one can not begin

    @Edge(promise = {19, 20}, words = "A STROKE can begin in a CELL that is no PIT (1 else)")
    static void notInAPit(Due due) {
        HillStrokes h = Grounds.slope(3);
        due.is("why in a pit", h.why(8, 1), 1);
        due.is("draw from a pit", h.draw(8, 1), NO);
        due.is("why beside it", h.why(7, 1), 0);
        HillStrokes river = Due.laid("g33;r959;r949;r959;");
        due.is("a pit that is a river", river.why(1, 1), 1);
        h.draw(6, 1);
        due.is("a pit of a stroke", h.why(8, 1), 1);
        due.is("a pit beside a stroke", h.why(8, 0), 1);
    }

    @Edge(promise = {19, 20}, words = "no RIVER (2 else)")
    static void notInARiver(Due due) {
        HillStrokes h = Due.laid(VALLEY);
        due.is("why", h.why(2, 1), 2);
        due.is("draw", h.draw(2, 1), NO);
        due.is("a stroke above", h.draw(3, 0), 0);
        due.is("a river beside a stroke", h.why(2, 1), 2);
        due.is("a river of a stroke", h.why(3, 1), 2);
    }

    @Edge(promise = {19, 20}, words = "no RIVER (2 else)")
    static void itMayGoThroughARiver(Due due) {
        HillStrokes h = Due.laid(VALLEY);
        due.is("the next cell is a river", h.cell(3, 1, 6), 1);
        due.is("why", h.why(3, 0), 0);
        due.is("draw", h.draw(3, 0), 0);
        due.is("it has the river", h.whose(3, 1), 0);
    }

    @Edge(promise = {19, 20}, words = "no RIVER (2 else)")
    static void itMayBeginInARidge(Due due) {
        HillStrokes h = Due.laid("g33;r000;r090;");
        due.is("a ridge", h.cell(1, 1, 5), 1);
        due.is("why", h.why(1, 1), 0);
        due.is("draw", h.draw(1, 1), 0);
    }

    @Edge(promise = {19, 20}, words = "KEPT OFF (3 else)")
    static void notBesideAStroke(Due due) {
        HillStrokes h = Grounds.slope(3);
        h.draw(4, 0);
        due.is("in its first cell", h.why(4, 0), 3);
        due.is("beside its first cell, and the next is, too", h.why(3, 0), 3);
        due.is("below it", h.why(4, 1), 3);
        due.is("two below it", h.why(4, 2), 0);
        due.is("draw beside it", h.draw(3, 0), NO);
        due.is("draw two below it", h.draw(4, 2), 1);
    }

    @Edge(promise = {19, 20}, words = "and the next CELL, DOWN, is KEPT OFF (4 else)")
    static void notWhereTheNextIsBesideAStroke(Due due) {
        HillStrokes h = Grounds.slope(3);
        h.draw(6, 1);
        due.is("two away", h.why(4, 1), 4);
        due.is("draw two away", h.draw(4, 1), NO);
        due.is("three away", h.why(3, 1), 0);
        due.is("draw three away", h.draw(3, 1), 1);
        due.is("it has two cells", h.stroke(1, -1), 2);
    }

    // ---- why it ended

    @Edge(promise = 23, words = ENDS)
    static void itGoesAsTheFlowDoes(Due due) {
        HillStrokes h = Due.laid("g33;r987;r996;r945;");
        h.draw(0, 0);
        int[] cells = {0, 1, 11, 19};
        due.is("cells", h.stroke(0, -1), cells.length);
        for (int k = 0; k < cells.length; k++) {
            due.is("cell " + k, h.stroke(0, k), cells[k]);
        }
    }

    @Edge(promise = 23, words = "in a PIT (1)")
    static void itEndsInAPit(Due due) {
        HillStrokes h = Grounds.slope(3);
        h.draw(5, 1);
        due.is("why", h.stroke(0, -2), 1);
        due.is("its last cell", h.stroke(0, 3), 17);
    }

    @Edge(promise = 23, words = "or where the next CELL is not KEPT OFF from the STROKES ahead of it (2)")
    static void itEndsAheadOfAnother(Due due) {
        HillStrokes h = Grounds.slope(3);
        h.draw(7, 1);
        h.draw(3, 1);
        due.is("why", h.stroke(1, -2), 2);
        due.is("cells", h.stroke(1, -1), 3);
        due.is("two from the other", h.stroke(1, 2), 14);
        HillStrokes corner = Grounds.slope(3);
        corner.draw(6, 0);
        corner.draw(1, 1);
        due.is("why, by a corner", corner.stroke(1, -2), 2);
        due.is("cells, by a corner", corner.stroke(1, -1), 4);
    }

    @Edge(promise = 23, words = "or where the next CELL is not KEPT OFF from the STROKES ahead of it (2)")
    static void itNeedNotKeepOffItself(Due due) {
        // Its third cell is beside its first one.
        HillStrokes h = Due.laid("g33;r949;r929;r999;");
        h.draw(0, 0);
        due.is("cells", h.stroke(0, -1), 3);
        due.is("the third", h.stroke(0, 2), 10);
        due.is("why", h.stroke(0, -2), 1);
    }

    @Edge(promise = 23, words = "or has 6 CELLS (3)")
    static void itEndsWith6(Due due) {
        HillStrokes h = Grounds.slope(3);
        h.draw(2, 1);
        due.is("cells", h.stroke(0, -1), 6);
        due.is("why", h.stroke(0, -2), 3);
    }

    @Edge(promise = 23, words = "the lowest of these.")
    static void sixAndAPit(Due due) {
        HillStrokes h = Grounds.slope(3);
        h.draw(3, 1);
        due.is("cells", h.stroke(0, -1), 6);
        due.is("why", h.stroke(0, -2), 1);
    }

    @Edge(promise = 23, words = "the lowest of these.")
    static void sixAndAnother(Due due) {
        HillStrokes h = Grounds.slope(3);
        h.draw(7, 1);
        h.draw(0, 1);
        due.is("cells", h.stroke(1, -1), 6);
        due.is("why", h.stroke(1, -2), 2);
    }

    @Edge(promise = 23, words = "the lowest of these.")
    static void aPitTwoFromAnother(Due due) {
        // Both strokes end in pits, (2, 1) and (4, 1), and the second has nowhere to go on.
        HillStrokes h = Due.laid("g73;r9999999;r9505059;r9999999;");
        due.is("one", h.draw(0, 1), 0);
        due.is("the other", h.draw(6, 1), 1);
        due.is("why the one", h.stroke(0, -2), 1);
        due.is("why the other", h.stroke(1, -2), 1);
    }

    // ---- how many

    /** Sixteen strokes of two cells, from a 9 to a 0; about each there is a row of 5. */
    private static final String CROWD = "g99;r905905959;r555555050;r905905555;r555555959;r905905050;r555555555;"
        + "r905905905;r555555555;r905905905;";
    private static final int[] CROWD_BEGINS = {0, 3, 18, 21, 36, 39, 6, 33, 8, 35, 54, 57, 60, 72, 75, 78};

    /**
     * 20 can not come about: with the cells to its right, below it and between, a
     * stroke fills 6 places or more of 10 by 10, and no two fill the same; so
     * there are 16 at most, and the 17th is refused as one that can not begin.
     */
    @Edge(promise = {20, 22, 25}, words = NUMBERS)
    static void sixteenAreTheMostThatFit(Due due) {
        HillStrokes h = Due.laid(CROWD);
        for (int s = 0; s < CROWD_BEGINS.length; s++) {
            due.is("stroke " + s, h.draw(CROWD_BEGINS[s] % 9, CROWD_BEGINS[s] / 9), s);
        }
        due.is("strokes", h.count(3), 16);
        due.is("cells of all", h.count(4), 32);
        for (int i = 0; i < 81; i++) {
            due.is("one more from " + i, h.draw(i % 9, i / 9), NO);
        }
        due.is("hatch", h.hatch(), 0);
        due.is("the last", h.stroke(15, 0), 78);
        due.is("behind the last", h.stroke(16, 0), BAD);
    }

    @Edge(promise = {20, 24}, words = NUMBERS)
    static void numberedAsTheyAreDrawn(Due due) {
        HillStrokes h = Due.laid(CROWD);
        due.is("the lower one first", h.draw(6, 8), 0);
        due.is("then the upper one", h.draw(0, 0), 1);
        due.is("whose is the lower one", h.whose(6, 8), 0);
        due.is("whose is the upper one", h.whose(0, 0), 1);
    }

    @Edge(promise = {21, 24}, words = "one that is rubbed out goes out of the row.")
    static void rubbedOutOfTheRow(Due due) {
        HillStrokes h = Grounds.slope(3);
        h.draw(6, 1);
        h.draw(3, 1);
        h.draw(0, 1);
        due.is("rub the one in the middle", h.rub(1), 2);
        due.is("the first", h.whose(6, 1), 0);
        due.is("nobody's", h.whose(3, 1), NONE);
        due.is("the last is one lower", h.whose(0, 1), 1);
        due.is("the next that is drawn is the last", h.draw(3, 1), 2);
    }

    // ---- hatched

    @Edge(promise = 22, words = HATCHED)
    static void theSteepestBegins(Due due) {
        String text = "g39;r321;r321;r321;r000;r000;r000;r951;r951;r951;";
        HillStrokes h = Due.laid(text);
        h.hatch();
        due.is("the first begins", h.stroke(0, 0), 54);
        HillStrokes bare = Due.laid(text);
        int steepest = 0;
        for (int i = 0; i < 27; i++) {
            if (bare.why(i % 3, i / 3) == 0) {
                steepest = Math.max(steepest, bare.cell(i % 3, i / 3, 3));
            }
        }
        due.is("the steepest that can", steepest, 13);
        due.is("is as steep as the first", bare.cell(0, 6, 3), 13);
        due.is("one that is not so steep is ahead of it in the rows", bare.why(0, 0), 0);
    }

    @Edge(promise = 22, words = HATCHED)
    static void theFirstAndTheLastCellBegin(Due due) {
        HillStrokes h = Due.laid("g99;r900000000;" + Grounds.rows(7, "000000000") + "r000000009;");
        due.is("hatch", h.hatch(), 2);
        due.is("the first cell", h.stroke(0, 0), 0);
        due.is("the last cell", h.stroke(1, 0), 80);
    }

    @Edge(promise = 22, words = HATCHED)
    static void theSteepestOfThoseThatCan(Due due) {
        // The sides of the peak are the steepest, but they are pits.
        HillStrokes h = Due.laid("g33;r000;r090;");
        due.is("a side is steeper", h.cell(1, 0, 3) > h.cell(1, 1, 3) ? 1 : 0, 1);
        due.is("hatch", h.hatch(), 1);
        due.is("the peak begins", h.stroke(0, 0), 10);
    }

    @Edge(promise = 22, words = "of several the lowest y, then x,")
    static void theLowestYOfLikeOnes(Due due) {
        HillStrokes h = Due.laid("g99;r000000000;r000000090;" + Grounds.rows(5, "000000000") + "r090000000;");
        // The peaks' sides are all as steep, but only the peaks are no pits.
        due.is("hatch", h.hatch(), 2);
        due.is("the upper, though it is to the right", h.stroke(0, 0), 16);
        due.is("the lower", h.stroke(1, 0), 64);
    }

    @Edge(promise = 22, words = "of several the lowest y, then x,")
    static void theLowestXOfLikeOnesInARow(Due due) {
        HillStrokes h = Due.laid("g93;r000000000;r090000090;");
        due.is("hatch", h.hatch(), 2);
        due.is("the left one", h.stroke(0, 0), 10);
        due.is("the right one", h.stroke(1, 0), 16);
    }

    @Edge(promise = {19, 22}, words = "till none can or there are 20.")
    static void hatchedTillNoneCan(Due due) {
        HillStrokes h = new HillStrokes();
        due.is("hatch", h.hatch() > 0 ? 1 : 0, 1);
        for (int i = 0; i < 49; i++) {
            due.holds("one can begin in " + i, h.why(i % 7, i / 7) > 0);
        }
        due.is("hatch again", h.hatch(), 0);
    }

    @Edge(promise = 22, words = "till none can or there are 20.")
    static void hatchedTheFlat(Due due) {
        HillStrokes h = Due.laid("g99;");
        due.is("hatch", h.hatch(), 0);
        due.is("strokes", h.count(3), 0);
    }

    @Edge(promise = 22, words = "till none can or there are 20.")
    static void hatchedBehindOthers(Due due) {
        HillStrokes h = Grounds.slope(3);
        h.draw(6, 1);
        due.is("hatch", h.hatch(), 2);
        due.is("strokes", h.count(3), 3);
        due.is("the drawn one", h.stroke(0, 0), 15);
        due.is("the next one, the steepest that can", h.stroke(1, 0), 1);
    }
}
