/** The edges of the promises 1 to 9 themselves: a new object, write, wipe, fault, lay, raise, light, shades, undo. */
final class Promises1To9 {
    private static final int BAD = HillStrokes.BAD, NO = HillStrokes.NO, FULL = HillStrokes.FULL,
        NONE = HillStrokes.NONE;
    private static final String LETTER = "A letter (32 to 126, as in ASCII) comes behind THE TEXT: how long it is.";

    // ---- 1 a new object

    @Edge(promise = 1, words = "As told; THE TEXT is empty, no STROKES.")
    static void promise1NoLetters(Due due) {
        HillStrokes h = new HillStrokes();
        due.is("letters", h.count(9), 0);
        due.is("fault", h.fault(), NONE);
        due.is("lay", h.lay(), NO);
        due.is("wipe", h.wipe(), 0);
        due.is("the first letter", h.write('g'), 1);
    }

    @Edge(promise = 1, words = "As told; THE TEXT is empty, no STROKES.")
    static void promise1NoStrokes(Due due) {
        HillStrokes h = new HillStrokes();
        due.is("strokes", h.count(3), 0);
        due.is("cells of strokes", h.count(4), 0);
        due.is("rub", h.rub(0), BAD);
        due.is("stroke", h.stroke(0, -1), BAD);
        due.is("whose", h.whose(3, 3), NONE);
        due.is("the first stroke", h.draw(3, 3), 0);
    }

    @Edge(promise = 1, words = "As told;")
    static void promise1EachObjectIsItsOwn(Due due) {
        HillStrokes one = new HillStrokes();
        one.write('x');
        one.raise(0, 0, 9);
        one.light(0, 3);
        one.shades(2);
        one.draw(3, 3);
        HillStrokes other = new HillStrokes();
        due.is("letters", other.count(9), 0);
        due.is("height", other.cell(0, 0, 0), 0);
        due.is("light", other.light(0, 7), NO);
        due.is("shades", other.count(2), 4);
        due.is("strokes", other.count(3), 0);
        due.is("changes", other.count(8), 0);
    }

    // ---- 2 write

    @Edge(promise = 2, words = LETTER)
    static void promise2TheFirstAndTheLastLetter(Due due) {
        HillStrokes h = new HillStrokes();
        due.is("the first", h.write(32), 1);
        due.is("the last", h.write(126), 2);
    }

    @Edge(promise = 2, words = LETTER)
    static void promise2EveryLetter(Due due) {
        HillStrokes h = new HillStrokes();
        for (int letter = 32; letter <= 126; letter++) {
            due.is("write " + letter, h.write(letter), letter - 31);
        }
    }

    @Edge(promise = 2, words = LETTER)
    static void promise2ItComesBehindTheText(Due due) {
        HillStrokes h = Due.written("g34;");
        h.lay();
        due.is("columns", h.count(0), 3);
        due.is("rows", h.count(1), 4);
    }

    @Edge(promise = 2, words = "BAD;")
    static void promise2TooSmallOrTooLarge(Due due) {
        HillStrokes h = new HillStrokes();
        int[] bad = {31, 127, 0, -1, 255, 'g' + 256, 'g' + 65536, 'g' - 65536, Integer.MIN_VALUE, Integer.MAX_VALUE};
        for (int letter : bad) {
            due.is("write " + letter, h.write(letter), BAD);
            due.is("letters", h.count(9), 0);
        }
    }

    @Edge(promise = 2, words = "FULL: it has 200.")
    static void promise2Full(Due due) {
        HillStrokes h = Due.written("g33;" + "s4;".repeat(65));
        due.is("the 200th", h.write(';'), 200);
        due.is("the 201st", h.write(';'), FULL);
        due.is("once more", h.write('g'), FULL);
        due.is("letters", h.count(9), 200);
        due.is("the text is as it was", h.fault(), 199);
    }

    @Edge(promise = {2, 3}, words = "FULL: it has 200.")
    static void promise2FullNoMoreWhenWiped(Due due) {
        HillStrokes h = Due.written(" ".repeat(200));
        due.is("full", h.write('g'), FULL);
        due.is("wipe", h.wipe(), 200);
        due.is("write", h.write('g'), 1);
    }

    // ---- 3 wipe

    @Edge(promise = 3, words = "THE TEXT is empty: how long it was.")
    static void promise3AnEmptyText(Due due) {
        HillStrokes h = new HillStrokes();
        due.is("wipe", h.wipe(), 0);
        h.write('g');
        due.is("wipe of one", h.wipe(), 1);
        due.is("wipe again", h.wipe(), 0);
    }

    @Edge(promise = 3, words = "THE TEXT is empty: how long it was.")
    static void promise3AFullText(Due due) {
        HillStrokes h = Due.written("x".repeat(200));
        due.is("fault", h.fault(), 0);
        due.is("wipe", h.wipe(), 200);
        due.is("letters", h.count(9), 0);
        due.is("no fault", h.fault(), NONE);
    }

    @Edge(promise = 3, words = "THE TEXT is empty: how long it was.")
    static void promise3TheGroundStays(Due due) {
        HillStrokes h = Due.laid("g43;r1234;");
        h.wipe();
        due.is("columns", h.count(0), 4);
        due.is("heights together", h.count(10), 10);
    }

    // ---- 4 fault

    @Edge(promise = 4, words = "FAULT. NONE.")
    static void promise4TheFirstPlace(Due due) {
        due.is("fault", Due.written("x").fault(), 0);
        due.is("fault of the text alone", Due.written("g").fault(), 0);
    }

    @Edge(promise = 4, words = "FAULT. NONE.")
    static void promise4NoneWithoutLettersAndWithoutFault(Due due) {
        due.is("of the empty text", new HillStrokes().fault(), NONE);
        due.is("of the shortest ground", Due.written("g33;").fault(), NONE);
    }

    @Edge(promise = 4, words = "FAULT. NONE.")
    static void promise4ItIsOfTheTextNotOfTheGround(Due due) {
        HillStrokes h = Due.laid("g33;r123;");
        h.wipe();
        Due.write(h, "r123;");
        due.is("the columns of the ground are no matter", h.fault(), 0);
        due.is("asked again", h.fault(), 0);
        due.is("the ground stays", h.cell(2, 0, 0), 3);
    }

    // ---- 5 lay

    @Edge(promise = 5, words = "LAID: how many CELLS; no STROKES.")
    static void promise5TheFewestAndTheMostCells(Due due) {
        due.is("the fewest", Due.written("g33;").lay(), 9);
        due.is("the most", Due.written("g99;").lay(), 81);
    }

    @Edge(promise = 5, words = "LAID: how many CELLS; no STROKES.")
    static void promise5NoStrokes(Due due) {
        HillStrokes h = Grounds.slope(3);
        h.draw(3, 1);
        due.is("lay of the same text", h.lay(), 27);
        due.is("strokes", h.count(3), 0);
        due.is("whose", h.whose(3, 1), NONE);
        due.is("why", h.why(3, 1), 0);
    }

    @Edge(promise = 5, words = "NO.")
    static void promise5RefusedTheStrokesStay(Due due) {
        HillStrokes h = Grounds.slope(3);
        h.draw(3, 1);
        h.wipe();
        due.is("lay of no text", h.lay(), NO);
        h.write('g');
        due.is("lay of a fault", h.lay(), NO);
        due.is("strokes", h.count(3), 1);
        due.is("changes", h.count(8), 1);
        due.is("columns", h.count(0), 9);
    }

    // ---- 6 raise

    @Edge(promise = 6, words = "A HEIGHT is told anew: what it was.")
    static void promise6FromTheLeastToTheGreatestAndBack(Due due) {
        HillStrokes h = Due.laid("g33;");
        due.is("raise", h.raise(2, 2, 9), 0);
        due.is("height", h.cell(2, 2, 0), 9);
        due.is("lower", h.raise(2, 2, 0), 9);
        due.is("height then", h.cell(2, 2, 0), 0);
        due.is("no other", h.count(10), 0);
    }

    @Edge(promise = 6, words = "BAD;")
    static void promise6NoSuchCellOrHeight(Due due) {
        HillStrokes h = Due.laid("g34;");
        int[][] bad = {{-1, 0, 1}, {3, 0, 1}, {0, -1, 1}, {0, 4, 1}, {3, 4, 1}, {0, 0, -1}, {0, 0, 10},
            {0, 0, Integer.MIN_VALUE}, {0, 0, Integer.MAX_VALUE}};
        for (int[] c : bad) {
            due.is("raise " + c[0] + " " + c[1] + " " + c[2], h.raise(c[0], c[1], c[2]), BAD);
        }
        due.is("heights together", h.count(10), 0);
        due.is("changes", h.count(8), 0);
    }

    @Edge(promise = 6, words = "NO: it is so.")
    static void promise6ItIsSo(Due due) {
        HillStrokes h = Grounds.slope(3);
        h.draw(3, 1);
        due.is("raise", h.raise(4, 1, 5), NO);
        due.is("the stroke stays", h.count(3), 1);
        due.is("changes", h.count(8), 1);
        due.is("the least that is so", Due.laid("g33;").raise(0, 0, 0), NO);
        due.is("the greatest that is so", Grounds.even(3, 3, 9).raise(0, 0, 9), NO);
    }

    // ---- 7 light

    @Edge(promise = 7, words = "LIGHT of a QUARTER is told anew: what it was.")
    static void promise7TheFirstAndTheLastQuarter(Due due) {
        HillStrokes h = Due.laid("g33;l1234;");
        due.is("the first", h.light(0, 7), 1);
        due.is("the last", h.light(3, 0), 4);
        due.is("told anew", h.light(0, 0), 7);
        due.is("told anew, the last", h.light(3, 7), 0);
        due.is("another stays", h.light(1, 2), NO);
        due.is("and the other", h.light(2, 3), NO);
    }

    @Edge(promise = 7, words = "BAD;")
    static void promise7NoSuchQuarterOrDirection(Due due) {
        HillStrokes h = Due.laid("g33;");
        int[][] bad = {{-1, 0}, {4, 0}, {0, -1}, {0, 8}, {4, 8}, {Integer.MIN_VALUE, 0}, {Integer.MAX_VALUE, 0},
            {0, Integer.MIN_VALUE}, {0, Integer.MAX_VALUE}};
        for (int[] c : bad) {
            due.is("light " + c[0] + " " + c[1], h.light(c[0], c[1]), BAD);
        }
        due.is("changes", h.count(8), 0);
        due.is("as it was", h.light(0, 7), NO);
    }

    @Edge(promise = 7, words = "NO: it is so.")
    static void promise7ItIsSo(Due due) {
        HillStrokes h = Due.laid("g33;l0770;");
        due.is("the least", h.light(0, 0), NO);
        due.is("the greatest", h.light(2, 7), NO);
        due.is("no change", h.count(8), 0);
        h.light(0, 7);
        due.is("so by a change", h.light(0, 7), NO);
        due.is("one change", h.count(8), 1);
    }

    // ---- 8 shades

    @Edge(promise = 8, words = "N SHADES: how many were told.")
    static void promise8ToldNotThereAre(Due due) {
        // The flat has one group only.
        HillStrokes h = Due.laid("g33;");
        due.is("the most", h.shades(6), 4);
        due.is("the fewest", h.shades(2), 6);
        due.is("told", h.count(2), 2);
        due.is("groups", h.shade(-1), 1);
    }

    @Edge(promise = 8, words = "BAD;")
    static void promise8TooFewOrTooMany(Due due) {
        HillStrokes h = new HillStrokes();
        int[] bad = {1, 7, 0, -1, Integer.MIN_VALUE, Integer.MAX_VALUE};
        for (int n : bad) {
            due.is("shades " + n, h.shades(n), BAD);
        }
        due.is("told", h.count(2), 4);
        due.is("changes", h.count(8), 0);
    }

    @Edge(promise = 8, words = "NO: it is so.")
    static void promise8ItIsSo(Due due) {
        for (int n = 2; n <= 6; n++) {
            HillStrokes h = Due.laid("g33;s" + n + ";");
            due.is("shades " + n, h.shades(n), NO);
            due.is("changes", h.count(8), 0);
        }
    }

    // ---- 9 undo

    @Edge(promise = 9, words = "UNDONE: how many more can be.")
    static void promise9HowManyMore(Due due) {
        HillStrokes h = new HillStrokes();
        for (int i = 1; i <= 6; i++) {
            h.raise(0, 0, i);
        }
        for (int i = 5; i >= 0; i--) {
            due.is("undo", h.undo(), i);
            due.is("changes", h.count(8), i);
        }
    }

    @Edge(promise = 9, words = "NO.")
    static void promise9Nothing(Due due) {
        HillStrokes h = new HillStrokes();
        due.is("undo", h.undo(), NO);
        h.raise(0, 0, 9);
        due.is("undo of one", h.undo(), 0);
        due.is("undo again", h.undo(), NO);
        due.is("the height", h.cell(0, 0, 0), 0);
        due.is("changes", h.count(8), 0);
    }
}
