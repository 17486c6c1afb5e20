/** The edges of what the document says of changes, of what is undone, and of calls that are refused. */
final class ChangeEdges {
    private static final int BAD = HillStrokes.BAD, NO = HillStrokes.NO, FULL = HillStrokes.FULL,
        NONE = HillStrokes.NONE;
    private static final String HEIGHT = "A change: a HEIGHT told anew (all STROKES that have that CELL or one beside it "
        + "are rubbed out)";
    private static final String OTHERS = "LIGHTS, SHADES told anew, a STROKE drawn, rubbed out, HATCHED.";
    private static final String SIX = "UNDONE is the latest change (the last 6 can be,";
    private static final String NOTHING = "such by which nothing becomes another, too;";
    private static final String BEHIND = "behind LAID none can be).";
    private static final String ORDER = "Of several the first in this order;";
    private static final String UNCHANGED = "nothing changes then.";
    private static final String AS_IT_STANDS = "All that is asked is told of all as it stands then;";

    // ---- changes

    /** How many of the strokes (3, 1) to (8, 1) and (3, 7) to (8, 7) of a slope are left. */
    private static int leftBy(int x, int y) {
        HillStrokes h = Grounds.slope(9);
        h.draw(3, 1);
        h.draw(3, 7);
        h.raise(x, y, 0);
        return h.count(3);
    }

    @Edge(promise = 6, words = HEIGHT)
    static void aStrokeThatHasTheCell(Due due) {
        for (int x = 3; x <= 8; x++) {
            due.is("the upper one by " + x, leftBy(x, 1), 1);
            due.is("the lower one by " + x, leftBy(x, 7), 1);
        }
    }

    @Edge(promise = 6, words = HEIGHT)
    static void aStrokeThatHasOneBesideTheCell(Due due) {
        for (int y = 0; y <= 2; y++) {
            due.is("beside the first cell " + y, leftBy(2, y), 1);
            due.is("beside the last cell " + y, leftBy(8, y), 1);
            due.is("beside the lower one " + y, leftBy(2, 6 + y), 1);
        }
    }

    @Edge(promise = 6, words = HEIGHT)
    static void aStrokeTwoCellsAway(Due due) {
        for (int y = 0; y <= 8; y++) {
            due.is("to the left " + y, leftBy(1, y), 2);
        }
        for (int x = 0; x <= 8; x++) {
            for (int y = 3; y <= 5; y++) {
                due.is("between them " + x + " " + y, leftBy(x, y), 2);
            }
        }
    }

    @Edge(promise = 6, words = HEIGHT)
    static void severalStrokesByOneCell(Due due) {
        HillStrokes h = Grounds.slope(9);
        h.draw(3, 0);
        h.draw(3, 4);
        h.draw(3, 2);
        due.is("raise between two", h.raise(5, 1, 0), 4);
        due.is("strokes", h.count(3), 1);
        due.is("the one that is left", h.stroke(0, 0), 39);
        due.is("one change", h.undo(), 3);
        due.is("all three", h.count(3), 3);
        due.is("in their order", h.stroke(2, 0), 21);
    }

    @Edge(promise = 6, words = HEIGHT)
    static void theLastColumnIsNotBesideTheFirst(Due due) {
        HillStrokes h = Grounds.slope(9);
        h.draw(4, 4);
        h.raise(0, 5, 0);
        h.raise(0, 4, 0);
        due.is("strokes", h.count(3), 1);
    }

    @Edge(promise = {6, 9, 25}, words = HEIGHT)
    static void aHeightIsAChange(Due due) {
        HillStrokes h = Due.laid("g33;");
        h.raise(0, 0, 9);
        due.is("changes", h.count(8), 1);
        due.is("undo", h.undo(), 0);
        due.is("height", h.cell(0, 0, 0), 0);
    }

    @Edge(promise = {7, 9, 25}, words = OTHERS)
    static void aLightIsAChange(Due due) {
        HillStrokes h = Due.laid("g33;");
        h.light(2, 0);
        due.is("changes", h.count(8), 1);
        due.is("undo", h.undo(), 0);
        due.is("light", h.light(2, 7), NO);
    }

    @Edge(promise = {9, 15, 25}, words = OTHERS)
    static void aTurnIsOneChange(Due due) {
        HillStrokes h = Due.laid("g33;l1234;");
        due.is("turn", h.turn(), 4);
        due.is("changes", h.count(8), 1);
        due.is("undo", h.undo(), 0);
        for (int q = 0; q < 4; q++) {
            due.is("light " + q, h.light(q, q + 1), NO);
        }
    }

    @Edge(promise = {8, 9, 25}, words = OTHERS)
    static void shadesAreAChange(Due due) {
        HillStrokes h = Due.laid("g33;");
        h.shades(6);
        due.is("changes", h.count(8), 1);
        due.is("undo", h.undo(), 0);
        due.is("shades told", h.count(2), 4);
    }

    @Edge(promise = {9, 20, 25}, words = OTHERS)
    static void aStrokeDrawnIsAChange(Due due) {
        HillStrokes h = Grounds.slope(3);
        h.draw(0, 1);
        due.is("changes", h.count(8), 1);
        due.is("undo", h.undo(), 0);
        due.is("strokes", h.count(3), 0);
    }

    @Edge(promise = {9, 21, 25}, words = OTHERS)
    static void aStrokeRubbedOutIsAChange(Due due) {
        HillStrokes h = Grounds.slope(3);
        h.draw(7, 1);
        h.draw(3, 1);
        h.draw(0, 1);
        String before = Due.state(h);
        h.rub(1);
        due.is("changes", h.count(8), 4);
        due.is("undo", h.undo(), 3);
        due.holds("it is in its place again, and ends as it did", before.equals(Due.state(h)));
    }

    @Edge(promise = {9, 21}, words = OTHERS)
    static void theFirstStrokeRubbedOutIsAChange(Due due) {
        HillStrokes h = Grounds.slope(3);
        h.draw(7, 1);
        h.draw(3, 1);
        String before = Due.state(h);
        h.rub(0);
        h.undo();
        due.holds("the first is the first again", before.equals(Due.state(h)));
    }

    @Edge(promise = {9, 22, 25}, words = OTHERS)
    static void aHatchIsOneChange(Due due) {
        HillStrokes h = new HillStrokes();
        due.is("several are drawn", h.hatch() > 1 ? 1 : 0, 1);
        due.is("changes", h.count(8), 1);
        due.is("undo", h.undo(), 0);
        due.is("strokes", h.count(3), 0);
    }

    @Edge(promise = {2, 3, 4, 25}, words = OTHERS)
    static void theTextIsNoChange(Due due) {
        HillStrokes h = new HillStrokes();
        h.write('g');
        h.fault();
        h.wipe();
        due.is("changes", h.count(8), 0);
        h.raise(0, 0, 1);
        h.write('g');
        h.undo();
        due.is("the text is not undone", h.count(9), 1);
    }

    // ---- undone

    @Edge(promise = {9, 25}, words = SIX)
    static void theLatestFirst(Due due) {
        HillStrokes h = Due.laid("g33;");
        h.raise(0, 0, 1);
        h.shades(2);
        h.undo();
        due.is("the shades are undone", h.count(2), 4);
        due.is("the height is not", h.cell(0, 0, 0), 1);
        h.undo();
        due.is("then it is", h.cell(0, 0, 0), 0);
    }

    @Edge(promise = {9, 25}, words = SIX)
    static void sixCanBe(Due due) {
        HillStrokes h = Due.laid("g33;");
        for (int v = 1; v <= 6; v++) {
            h.raise(0, 0, v);
            due.is("changes", h.count(8), v);
        }
        for (int v = 5; v >= 0; v--) {
            due.is("undo", h.undo(), v);
            due.is("height", h.cell(0, 0, 0), v);
        }
        due.is("no more", h.undo(), NO);
    }

    @Edge(promise = {9, 25}, words = SIX)
    static void theSeventhCanNotBe(Due due) {
        HillStrokes h = Due.laid("g33;");
        for (int v = 1; v <= 7; v++) {
            h.raise(0, 0, v);
        }
        due.is("changes", h.count(8), 6);
        for (int v = 6; v >= 1; v--) {
            due.is("undo", h.undo(), v - 1);
            due.is("height", h.cell(0, 0, 0), v);
        }
        due.is("no more", h.undo(), NO);
        due.is("the first change stays", h.cell(0, 0, 0), 1);
    }

    @Edge(promise = {9, 25}, words = SIX)
    static void manyTimesRound(Due due) {
        HillStrokes h = Due.laid("g33;");
        for (int i = 1; i <= 100; i++) {
            int x = i % 3, y = i / 3 % 3, v = (i + i / 9) % 9 + 1;
            h.raise(x, y, v);
            h.raise(x, y, 0);
            due.is("undo", h.undo(), Math.min(i, 5));
            due.is("height", h.cell(x, y, 0), v);
        }
    }

    @Edge(promise = {9, 25}, words = SIX)
    static void anUndoIsNoChange(Due due) {
        HillStrokes h = Due.laid("g33;");
        h.raise(0, 0, 1);
        h.undo();
        due.is("changes", h.count(8), 0);
        due.is("it can not be undone itself", h.undo(), NO);
        h.raise(0, 0, 2);
        due.is("a change behind it", h.count(8), 1);
    }

    @Edge(promise = {9, 15, 25}, words = NOTHING)
    static void aTurnOfNothing(Due due) {
        HillStrokes h = Due.laid("g33;l0000;");
        h.raise(0, 0, 1);
        h.raise(0, 0, 0);
        due.is("turn", h.turn(), 0);
        due.is("changes", h.count(8), 3);
        due.is("undo", h.undo(), 2);
        due.is("nothing becomes another", h.cell(0, 0, 0), 0);
        due.is("undo the one ahead", h.undo(), 1);
        due.is("the height becomes another", h.cell(0, 0, 0), 1);
    }

    @Edge(promise = {9, 22, 25}, words = NOTHING)
    static void aHatchOfNothing(Due due) {
        HillStrokes h = Grounds.slope(3);
        h.draw(0, 1);
        h.hatch();
        int strokes = h.count(3);
        due.is("hatch", h.hatch(), 0);
        due.is("changes", h.count(8), 3);
        due.is("undo", h.undo(), 2);
        due.is("strokes", h.count(3), strokes);
    }

    @Edge(promise = {9, 15, 22}, words = NOTHING)
    static void theyPushOthersOut(Due due) {
        HillStrokes h = Due.laid("g33;l0000;");
        h.shades(2);
        for (int i = 0; i < 3; i++) {
            h.turn();
            h.hatch();
        }
        for (int i = 5; i >= 0; i--) {
            due.is("undo", h.undo(), i);
        }
        due.is("no more", h.undo(), NO);
        due.is("the shades can not be undone", h.count(2), 2);
    }

    @Edge(promise = {5, 9, 25}, words = BEHIND)
    static void noneBehindLaid(Due due) {
        HillStrokes h = Due.written("g33;");
        h.raise(0, 0, 9);
        h.hatch();
        h.lay();
        due.is("changes", h.count(8), 0);
        due.is("undo", h.undo(), NO);
        due.is("columns", h.count(0), 3);
        h.raise(0, 0, 5);
        due.is("undo of one behind it", h.undo(), 0);
        due.is("undo of one ahead of it", h.undo(), NO);
    }

    @Edge(promise = {5, 9}, words = BEHIND)
    static void behindARefusedOneTheyCan(Due due) {
        HillStrokes h = Due.written("g33;x");
        h.raise(0, 0, 9);
        due.is("lay", h.lay(), NO);
        due.is("undo", h.undo(), 0);
        due.is("height", h.cell(0, 0, 0), 0);
    }

    @Edge(promise = {1, 9, 25}, words = BEHIND)
    static void noneInANewObject(Due due) {
        HillStrokes h = new HillStrokes();
        due.is("changes", h.count(8), 0);
        due.is("undo", h.undo(), NO);
        due.is("columns", h.count(0), 7);
    }

    // ---- refused

    @Edge(promise = {21, 23}, words = "BAD: a number is none that is told (CELLS, STROKES such as there are).")
    static void strokesSuchAsThereAre(Due due) {
        HillStrokes h = Grounds.slope(3);
        due.is("rub of none", h.rub(0), BAD);
        due.is("stroke of none", h.stroke(0, -1), BAD);
        h.draw(6, 1);
        h.draw(3, 1);
        int[] not = {-1, 2, 3, 19, 20, Integer.MIN_VALUE, Integer.MAX_VALUE};
        for (int s : not) {
            due.is("rub " + s, h.rub(s), BAD);
            due.is("stroke " + s, h.stroke(s, 0), BAD);
        }
        due.is("rub of the last", h.rub(1), 1);
        due.is("it is none then", h.stroke(1, 0), BAD);
        due.is("nor can it be rubbed out again", h.rub(1), BAD);
    }

    @Edge(promise = {5, 6, 7, 8, 9, 20}, words = "NO: not as things stand.")
    static void asThingsStand(Due due) {
        HillStrokes h = Due.laid("g33;");
        due.is("a height that is so", h.raise(0, 0, 0), NO);
        due.is("a light that is so", h.light(0, 7), NO);
        due.is("shades that are so", h.shades(4), NO);
        due.is("nothing to undo", h.undo(), NO);
        due.is("a pit", h.draw(0, 0), NO);
        h.wipe();
        due.is("no text", h.lay(), NO);
    }

    @Edge(promise = {4, 10, 16, 23, 24}, words = "NONE: there is none. FULL.")
    static void whereThereIsNone(Due due) {
        HillStrokes h = Due.laid("g33;r000;r010;");
        h.draw(1, 1);
        due.is("no fault", h.fault(), NONE);
        due.is("no way down", h.cell(0, 0, 4), NONE);
        due.is("no such group", h.shade(6), NONE);
        due.is("no such cell of the stroke", h.stroke(0, 2), NONE);
        due.is("no stroke has it", h.whose(0, 0), NONE);
    }

    @Edge(promise = {5, 6, 7, 20}, words = ORDER)
    static void badIsAheadOfNo(Due due) {
        HillStrokes h = Due.laid("g33;");
        due.is("no such cell, and all are of that height", h.raise(3, 0, 0), BAD);
        due.is("no such height, and the cell is there", h.raise(0, 0, 10), BAD);
        due.is("no such quarter, and all have that light", h.light(4, 7), BAD);
        due.is("no such light, and the quarter is there", h.light(0, 8), BAD);
        due.is("no such cell, and none can begin", h.draw(0, 3), BAD);
    }

    @Edge(promise = {16, 23}, words = ORDER)
    static void badIsAheadOfNone(Due due) {
        HillStrokes h = Due.laid("g33;r000;r010;");
        due.is("no such stroke, nor a cell of it", h.stroke(0, 6), BAD);
        h.draw(1, 1);
        due.is("a stroke, and a number below all", h.stroke(0, -4), BAD);
        due.is("no such stroke, and a number below all", h.stroke(1, -4), BAD);
        due.is("a group below all", h.shade(-3), BAD);
    }

    @Edge(promise = 2, words = ORDER)
    static void badIsAheadOfFull(Due due) {
        HillStrokes h = Due.written(" ".repeat(200));
        due.is("a letter too small", h.write(31), BAD);
        due.is("a letter too large", h.write(127), BAD);
        due.is("a letter", h.write(32), FULL);
    }

    /** Strokes, seven changes, of which six can be undone, and a full text whose last item has a fault. */
    private static HillStrokes busy() {
        HillStrokes h = Due.written("g33;r123;r456;" + "s4;".repeat(61) + "s4 ");
        h.raise(6, 0, 3);
        h.light(1, 4);
        h.shades(3);
        h.draw(3, 3);
        h.turn();
        h.hatch();
        h.rub(1);
        return h;
    }

    private static int refuse(HillStrokes h, int call) {
        switch (call) {
            case 0: return h.write(31);
            case 1: return h.write('a');
            case 2: return h.lay();
            case 3: return h.raise(7, 0, 1);
            case 4: return h.raise(0, 0, 10);
            case 5: return h.raise(6, 0, 3);
            case 6: return h.light(4, 0);
            case 7: return h.light(0, h.best(0));
            case 8: return h.shades(7);
            case 9: return h.shades(3);
            case 10: return h.cell(0, 0, 10);
            case 11: return h.flow(0, 0, 2);
            case 12: return h.basin(0, 7);
            case 13: return h.contrast(0, 8);
            case 14: return h.best(4);
            case 15: return h.shade(3);
            case 16: return h.shade(-3);
            case 17: return h.error(7);
            case 18: return h.level(10, 0);
            case 19: return h.why(7, 0);
            case 20: return h.draw(0, 7);
            case 21: return h.draw(3, 3);
            case 22: return h.rub(h.count(3));
            case 23: return h.stroke(0, -4);
            case 24: return h.stroke(0, 6);
            case 25: return h.whose(0, 7);
            default: return h.count(11);
        }
    }

    @Edge(promise = {2, 5, 6, 7, 8, 10, 11, 12, 13, 14, 16, 17, 18, 19, 20, 21, 23, 24, 25}, words = UNCHANGED)
    static void nothingChangesByARefusedCall(Due due) {
        for (int call = 0; call <= 26; call++) {
            HillStrokes h = busy();
            due.is("call " + call + " is refused", refuse(h, call) < 0 ? 1 : 0, 1);
            due.holds("call " + call + " changes something", Due.state(h).equals(Due.state(busy())));
        }
    }

    @Edge(promise = {9, 2, 5, 6, 7, 8, 20, 21}, words = UNCHANGED)
    static void nothingThatCanBeUndoneChangesByRefusedCalls(Due due) {
        for (int back = 1; back <= 6; back++) {
            HillStrokes h = busy();
            HillStrokes twin = busy();
            for (int call = 0; call <= 26; call++) {
                refuse(h, call);
            }
            for (int i = 0; i < back; i++) {
                due.is("undo", h.undo(), 5 - i);
                twin.undo();
            }
            due.holds("it is another " + back + " back", Due.state(h).equals(Due.state(twin)));
        }
    }

    @Edge(promise = 9, words = UNCHANGED)
    static void nothingChangesByARefusedUndo(Due due) {
        HillStrokes h = Grounds.slope(3);
        due.is("undo", h.undo(), NO);
        due.holds("it changes something", Due.state(h).equals(Due.state(Grounds.slope(3))));
    }

    // ---- as it stands

    @Edge(promise = {10, 11, 12, 13, 14, 16, 17, 18, 19, 24, 25}, words = AS_IT_STANDS)
    static void askedBehindChanges(Due due) {
        HillStrokes h = Due.laid("g33;r111;r222;r333;l0000;s2;");
        h.best(-1);
        h.cell(1, 1, 9);
        int[][] heights = {{0, 0, 9}, {1, 0, 4}, {2, 1, 7}, {1, 1, 6}, {0, 2, 0}, {2, 2, 8}};
        for (int[] c : heights) {
            h.raise(c[0], c[1], c[2]);
        }
        h.light(3, 5);
        h.shades(5);
        HillStrokes told = Due.laid("g33;r941;r267;r038;l0005;s5;");
        // As many changes, and as long a text.
        for (int i = 0; i < 6; i++) {
            told.light(0, 1 - i % 2);
        }
        due.is("changes of both", h.count(8), told.count(8));
        due.holds("it is as if it were told so", Due.answers(h).equals(Due.answers(told)));
    }

    @Edge(promise = {10, 16, 17, 18}, words = AS_IT_STANDS)
    static void askedBehindUndoAndLay(Due due) {
        HillStrokes h = Due.laid("g33;r941;r267;r038;l0005;s5;");
        h.raise(1, 1, 0);
        h.hatch();
        h.best(-1);
        h.shade(-1);
        h.undo();
        h.undo();
        due.holds("as ahead of the changes",
            Due.answers(h).equals(Due.answers(Due.laid("g33;r941;r267;r038;l0005;s5;"))));
        HillStrokes again = Due.laid("g33;r941;r267;r038;l0005;s5;");
        again.raise(1, 1, 0);
        again.hatch();
        again.lay();
        due.holds("as the text says", Due.answers(again).equals(Due.answers(Due.laid("g33;r941;r267;r038;l0005;s5;"))));
    }

    /** Asks of one ground, lays another one, and tells it. */
    private static HillStrokes fromOneToAnother(String one, String another) {
        HillStrokes h = Due.laid(one);
        h.best(-1);
        h.shade(-1);
        h.level(1, 0);
        h.hatch();
        h.wipe();
        Due.write(h, another);
        h.lay();
        return h;
    }

    @Edge(promise = {10, 14, 16, 17, 18}, words = AS_IT_STANDS)
    static void askedOfTheFlatBehindHills(Due due) {
        String hills = "g44;r2120;r1232;r3320;r1121;l0246;s6;";
        due.holds("as if it were the first", Due.answers(fromOneToAnother(hills, "g33;"))
            .equals(Due.answers(Due.laid("g33;"))));
        // Its tones go down to -18, the least.
        HillStrokes dark = fromOneToAnother("g33;r595;r950;r505;l7777;", "g33;");
        due.is("groups behind a dark one", dark.shade(-1), 1);
        HillStrokes flat = fromOneToAnother(hills, "g33;");
        due.is("groups", flat.shade(-1), 1);
        due.is("error", flat.error(6), 0);
        for (int q = 0; q < 4; q++) {
            due.is("best " + q, flat.best(q), 0);
        }
    }

    @Edge(promise = {10, 14, 16, 17, 18}, words = AS_IT_STANDS)
    static void askedOfHillsBehindTheFlat(Due due) {
        String hills = "g33;r941;r267;r038;l0005;s5;";
        due.holds("as if they were the first", Due.answers(fromOneToAnother("g99;", hills))
            .equals(Due.answers(Due.laid(hills))));
    }

    @Edge(promise = {14, 16, 17, 18}, words = AS_IT_STANDS)
    static void askedTwice(Due due) {
        HillStrokes h = Due.laid("g33;r900;r000;r009;");
        String once = Due.answers(h);
        due.holds("the answers are the same", once.equals(Due.answers(h)));
        due.is("hills", h.level(9, 0), 2);
        due.is("hills again", h.level(9, 0), 2);
    }

    @Edge(promise = {5, 25}, words = "LAID, THE TEXT stays.")
    static void theTextStaysWhenItIsLaid(Due due) {
        HillStrokes h = Due.written("g33;r123;");
        due.is("lay", h.lay(), 9);
        due.is("letters", h.count(9), 9);
        h.raise(0, 0, 9);
        due.is("lay again", h.lay(), 9);
        due.is("as the text says", h.cell(0, 0, 0), 1);
        Due.write(h, "r456;");
        due.is("lay of more", h.lay(), 9);
        due.is("the second row", h.cell(2, 1, 0), 6);
    }
}
