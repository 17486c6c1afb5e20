/** The edges of the promises 19 to 25 themselves: why, draw, rub, hatch, stroke, whose, count. */
final class Promises19To25 {
    private static final int BAD = HillStrokes.BAD, NO = HillStrokes.NO, NONE = HillStrokes.NONE;
    private static final String COUNT = "How many: 0 W, 1 H, 2 N told, 3 STROKES, 4 CELLS of all STROKES, 5 RIDGES, "
        + "6 RIVERS, 7 PITS, 8 changes that can be UNDONE, 9 letters of THE TEXT, 10 HEIGHTS together.";
    private static final int[][] NO_CELLS = {{-1, 0}, {9, 0}, {0, -1}, {0, 3}, {Integer.MIN_VALUE, 0},
        {Integer.MAX_VALUE, 0}, {0, Integer.MIN_VALUE}, {0, Integer.MAX_VALUE}};

    // ---- 19 why

    @Edge(promise = 19, words = "Why no STROKE can begin in a CELL: 1 to 4, the lowest of these;")
    static void promise19TheLowestOfThese(Due due) {
        // Row 1 is a river with a pit at its end; a stroke goes from (3, 0) along it.
        HillStrokes h = Due.laid("g53;r98765;r33321;r98765;");
        h.draw(3, 0);
        due.is("a pit, a river and of a stroke", h.why(4, 1), 1);
        due.is("a river and beside a stroke", h.why(2, 1), 2);
        due.is("beside a stroke, and the next is", h.why(2, 0), 3);
        due.is("far from the stroke", h.why(0, 0), 0);
        HillStrokes slope = Grounds.slope(3);
        slope.draw(6, 1);
        due.is("only the next is beside a stroke", slope.why(4, 1), 4);
    }

    @Edge(promise = 19, words = "0: one can.")
    static void promise19OneCan(Due due) {
        HillStrokes h = Grounds.slope(3);
        for (int x = 0; x < 8; x++) {
            due.is("why " + x, h.why(x, 1), 0);
        }
        due.is("draw", h.draw(0, 1), 0);
        due.is("no more", h.why(0, 1), 3);
        h.rub(0);
        due.is("again", h.why(0, 1), 0);
    }

    @Edge(promise = 19, words = "BAD.")
    static void promise19NoSuchCell(Due due) {
        HillStrokes h = Grounds.slope(3);
        for (int[] c : NO_CELLS) {
            due.is("why " + c[0] + " " + c[1], h.why(c[0], c[1]), BAD);
        }
    }

    // ---- 20 draw

    @Edge(promise = 20, words = "A STROKE is drawn from a CELL: its number.")
    static void promise20TheFirstNumbers(Due due) {
        HillStrokes h = Grounds.slope(3);
        due.is("the first", h.draw(6, 1), 0);
        due.is("the next", h.draw(3, 1), 1);
        due.is("the last", h.draw(0, 1), 2);
        due.is("it begins in the cell", h.stroke(2, 0), 9);
    }

    @Edge(promise = 20, words = "BAD;")
    static void promise20NoSuchCell(Due due) {
        HillStrokes h = Grounds.slope(3);
        for (int[] c : NO_CELLS) {
            due.is("draw " + c[0] + " " + c[1], h.draw(c[0], c[1]), BAD);
        }
        due.is("strokes", h.count(3), 0);
        due.is("changes", h.count(8), 0);
    }

    @Edge(promise = {19, 20}, words = "NO: it can not begin;")
    static void promise20JustWhereWhyIsNot0(Due due) {
        HillStrokes busy = new HillStrokes();
        busy.draw(3, 3);
        for (int i = 0; i < 49; i++) {
            HillStrokes h = new HillStrokes();
            h.draw(3, 3);
            int why = busy.why(i % 7, i / 7);
            due.is("draw from " + i + ", why is " + why, h.draw(i % 7, i / 7), why == 0 ? 1 : NO);
            due.is("strokes", h.count(3), why == 0 ? 2 : 1);
        }
    }

    /** It can not come about, as StrokeEdges shows: 16 fill the ground, and the next one can not begin. */
    @Edge(promise = 20, words = "FULL: 20.")
    static void promise20NoIsAheadOfFull(Due due) {
        HillStrokes h = Grounds.slope(9);
        h.hatch();
        for (int i = 0; i < 81; i++) {
            due.is("draw from " + i, h.draw(i % 9, i / 9), NO);
        }
    }

    // ---- 21 rub

    @Edge(promise = 21, words = "A STROKE is rubbed out (those behind it are one number lower): how many are left.")
    static void promise21TheFirstAndTheLast(Due due) {
        HillStrokes h = Grounds.slope(3);
        h.draw(6, 1);
        h.draw(3, 1);
        h.draw(0, 1);
        due.is("rub the last", h.rub(2), 2);
        due.is("the first stays", h.stroke(0, 0), 15);
        due.is("rub the first", h.rub(0), 1);
        due.is("the one behind it is the first", h.stroke(0, 0), 12);
        due.is("with its cells", h.stroke(0, -1), 2);
        due.is("and why it ended", h.stroke(0, -2), 2);
        due.is("rub the only one", h.rub(0), 0);
        due.is("cells of strokes", h.count(4), 0);
    }

    @Edge(promise = 21, words = "BAD.")
    static void promise21NoSuchStroke(Due due) {
        HillStrokes h = Grounds.slope(3);
        due.is("rub of none", h.rub(0), BAD);
        h.draw(6, 1);
        int[] bad = {-1, 1, 19, 20, Integer.MIN_VALUE, Integer.MAX_VALUE};
        for (int s : bad) {
            due.is("rub " + s, h.rub(s), BAD);
        }
        due.is("strokes", h.count(3), 1);
        due.is("changes", h.count(8), 1);
    }

    // ---- 22 hatch

    @Edge(promise = 22, words = "HATCHED: how many STROKES are drawn.")
    static void promise22DrawnNotThereAre(Due due) {
        HillStrokes h = Grounds.slope(3);
        h.draw(6, 1);
        due.is("hatch", h.hatch(), 2);
        due.is("strokes", h.count(3), 3);
        due.is("none are drawn", h.hatch(), 0);
        due.is("none in the flat", Due.laid("g33;").hatch(), 0);
        due.is("one", Due.laid("g33;r000;r090;").hatch(), 1);
    }

    // ---- 23 stroke

    /** From the first column by six cells of row 1. */
    private static HillStrokes withOne() {
        HillStrokes h = Grounds.slope(3);
        h.draw(0, 1);
        return h;
    }

    @Edge(promise = 23, words = "Of a STROKE: how many CELLS (k = -1),")
    static void promise23HowManyCells(Due due) {
        due.is("the most", withOne().stroke(0, -1), 6);
        HillStrokes h = Grounds.slope(3);
        h.draw(7, 1);
        due.is("the fewest", h.stroke(0, -1), 2);
    }

    @Edge(promise = 23, words = "why it ENDS (k = -2; as it was drawn),")
    static void promise23AsItWasDrawn(Due due) {
        HillStrokes h = Grounds.slope(3);
        h.draw(7, 1);
        h.draw(3, 1);
        due.is("ended by the other", h.stroke(1, -2), 2);
        h.rub(0);
        due.is("the other is rubbed out", h.stroke(0, -2), 2);
        h.draw(7, 1);
        h.raise(8, 0, 9);
        due.is("the other is rubbed out by a height", h.count(3), 1);
        due.is("it ended as it did", h.stroke(0, -2), 2);
        due.is("as long as it was", h.stroke(0, -1), 3);
    }

    @Edge(promise = 23, words = "how much higher its first CELL is than its last one (k = -3)")
    static void promise23HowMuchHigher(Due due) {
        due.is("by five", withOne().stroke(0, -3), 5);
        HillStrokes h = Grounds.slope(3);
        h.draw(7, 1);
        due.is("the least", h.stroke(0, -3), 1);
        HillStrokes peak = Due.laid("g33;r000;r090;");
        peak.draw(1, 1);
        due.is("the most", peak.stroke(0, -3), 9);
    }

    @Edge(promise = 23, words = "its k-th CELL, 9 y and x together.")
    static void promise23TheFirstAndTheLastCell(Due due) {
        due.is("the first", withOne().stroke(0, 0), 9);
        due.is("the last", withOne().stroke(0, 5), 14);
        HillStrokes corner = Due.laid("g33;r999;r999;r990;");
        corner.draw(1, 1);
        due.is("9 y, though there are 3 columns", corner.stroke(0, 1), 20);
        HillStrokes last = Due.laid("g99;" + Grounds.rows(8, "999999999") + "r999999990;");
        last.draw(7, 8);
        due.is("the last cell of all", last.stroke(0, 1), 80);
    }

    @Edge(promise = 23, words = "BAD (k below -3);")
    static void promise23BelowAll(Due due) {
        HillStrokes h = withOne();
        due.is("k -4", h.stroke(0, -4), BAD);
        due.is("the least k", h.stroke(0, Integer.MIN_VALUE), BAD);
        for (int k = -3; k <= 6; k++) {
            due.is("no such stroke, below", h.stroke(-1, k), BAD);
            due.is("no such stroke, above", h.stroke(1, k), BAD);
        }
    }

    @Edge(promise = 23, words = "NONE: not so many.")
    static void promise23NotSoMany(Due due) {
        HillStrokes h = Grounds.slope(3);
        h.draw(7, 1);
        for (int k = 2; k <= 7; k++) {
            due.is("k " + k, h.stroke(0, k), NONE);
        }
        due.is("the greatest k", h.stroke(0, Integer.MAX_VALUE), NONE);
        due.is("a seventh of the longest", withOne().stroke(0, 6), NONE);
    }

    // ---- 24 whose

    @Edge(promise = 24, words = "The STROKE that has a CELL.")
    static void promise24FromItsFirstToItsLastCell(Due due) {
        HillStrokes h = withOne();
        due.is("its first", h.whose(0, 1), 0);
        due.is("its last", h.whose(5, 1), 0);
        due.is("another", h.draw(7, 1), 1);
        due.is("the other's first", h.whose(7, 1), 1);
        due.is("the other's last, the last of the row", h.whose(8, 1), 1);
    }

    @Edge(promise = 24, words = "BAD;")
    static void promise24NoSuchCell(Due due) {
        HillStrokes h = withOne();
        for (int[] c : NO_CELLS) {
            due.is("whose " + c[0] + " " + c[1], h.whose(c[0], c[1]), BAD);
        }
    }

    @Edge(promise = 24, words = "NONE.")
    static void promise24Nobodys(Due due) {
        HillStrokes h = withOne();
        due.is("behind its last", h.whose(6, 1), NONE);
        due.is("above its first", h.whose(0, 0), NONE);
        h.rub(0);
        due.is("rubbed out", h.whose(0, 1), NONE);
        due.is("of a new object", new HillStrokes().whose(0, 0), NONE);
    }

    // ---- 25 count

    @Edge(promise = 25, words = COUNT)
    static void promise25OfAnEmptyGround(Due due) {
        HillStrokes h = Due.laid("g33;");
        int[] counts = {3, 3, 4, 0, 0, 0, 0, 9, 0, 4, 0};
        for (int what = 0; what <= 10; what++) {
            due.is("count " + what, h.count(what), counts[what]);
        }
    }

    @Edge(promise = 25, words = COUNT)
    static void promise25OfAFullGround(Due due) {
        HillStrokes h = Grounds.even(9, 9, 9);
        due.is("W", h.count(0), 9);
        due.is("H", h.count(1), 9);
        due.is("pits", h.count(7), 81);
        due.is("letters", h.count(9), 103);
        due.is("heights together", h.count(10), 729);
    }

    @Edge(promise = 25, words = COUNT)
    static void promise25EachOfItsOwn(Due due) {
        // The stroke goes from (3, 0) by (3, 1) to the pit (4, 1); the whole row 1 is a river.
        HillStrokes h = Due.laid("g53;r98765;r33321;r98765;s3;");
        h.draw(3, 0);
        int[] counts = {5, 3, 3, 1, 3, 0, 5, 3, 1, 28, 82};
        for (int what = 0; what <= 10; what++) {
            due.is("count " + what, h.count(what), counts[what]);
        }
    }

    @Edge(promise = 25, words = "BAD.")
    static void promise25NoSuchWhat(Due due) {
        HillStrokes h = new HillStrokes();
        int[] bad = {-1, 11, Integer.MIN_VALUE, Integer.MAX_VALUE};
        for (int what : bad) {
            due.is("count " + what, h.count(what), BAD);
        }
    }
}
