/** Promises 19 to 25: why, draw, rub, hatch, stroke, whose, count. */
final class StrokesTest {
    private static final int BAD = HillStrokes.BAD, NO = HillStrokes.NO, NONE = HillStrokes.NONE;
    /** Falls to the right by one a column; the last column is pits. */
    private static final String SLOPE = "g93;r987654321;r987654321;r987654321;";

    private static final Due due = new Due();

    public static void main(String[] args) {
        whyNot();
        whyTheLowest();
        drawing();
        drawingRefused();
        ends();
        endsAsDrawn();
        keepsOffOthersNotItself();
        rubbing();
        hatchingTheSlope();
        hatchingTheSteepestFirst();
        hatchingTheLowestOfLike();
        hatchingOnTop();
        strokesAsked();
        whoseCells();
        counts();
        due.end();
    }

    private static void whyNot() {
        HillStrokes h = Due.laid(SLOPE);
        due.is("one can", h.why(3, 1), 0);
        due.is("a pit", h.why(8, 1), 1);
        due.is("draw", h.draw(6, 1), 0);
        for (int y = 0; y < 3; y++) {
            int[] why = {0, 0, 0, 0, 4, 3, 3, 3, 1};
            for (int x = 0; x < 9; x++) {
                due.is("why " + x + " " + y, h.why(x, y), why[x]);
            }
        }
        HillStrokes river = Due.laid("g33;r565;r555;r564;");
        due.is("a river", river.why(1, 1), 2);
        int[][] bad = {{-1, 0}, {9, 0}, {0, -1}, {0, 3}, {Integer.MIN_VALUE, 0}, {0, Integer.MAX_VALUE}};
        for (int[] c : bad) {
            due.is("why " + c[0] + " " + c[1], h.why(c[0], c[1]), BAD);
            due.is("draw " + c[0] + " " + c[1], h.draw(c[0], c[1]), BAD);
            due.is("whose " + c[0] + " " + c[1], h.whose(c[0], c[1]), BAD);
        }
        due.is("asking changes nothing", h.count(8), 1);
    }

    private static void whyTheLowest() {
        HillStrokes river = Due.laid("g53;r98765;r33321;r98765;");
        due.is("a river, not a pit", river.why(2, 1), 2);
        due.is("a stroke beside it", river.draw(3, 0), 0);
        due.is("a river beside a stroke is 2", river.why(2, 1), 2);
        HillStrokes near = Due.laid(SLOPE);
        near.draw(4, 0);
        due.is("beside a stroke, and the next one too, is 3", near.why(3, 0), 3);
    }

    private static void drawing() {
        HillStrokes h = Due.laid(SLOPE);
        due.is("draw 6 1", h.draw(6, 1), 0);
        due.is("draw 3 1", h.draw(3, 1), 1);
        due.is("draw 0 1", h.draw(0, 1), 2);
        int[][] cells = {{15, 16, 17}, {12, 13}, {9, 10}};
        for (int s = 0; s < 3; s++) {
            due.is("length " + s, h.stroke(s, -1), cells[s].length);
            for (int k = 0; k < 7; k++) {
                due.is("stroke " + s + " " + k, h.stroke(s, k), k < cells[s].length ? cells[s][k] : NONE);
            }
        }
        due.is("changes", h.count(8), 3);
        due.is("the ground stays", h.count(10), 135);
    }

    private static void drawingRefused() {
        HillStrokes h = Due.laid(SLOPE);
        h.draw(6, 1);
        String before = Due.state(h);
        due.is("from a pit", h.draw(8, 0), NO);
        due.is("beside", h.draw(5, 0), NO);
        due.is("the next beside", h.draw(4, 0), NO);
        due.is("on the stroke", h.draw(6, 1), NO);
        due.is("nowhere", h.draw(9, 0), BAD);
        due.holds("nothing changes", before.equals(Due.state(h)));
        HillStrokes river = Due.laid("g33;r565;r555;r564;");
        due.is("from a river", river.draw(1, 1), NO);
    }

    private static void ends() {
        HillStrokes six = Due.laid(SLOPE);
        six.draw(0, 1);
        due.is("6 cells", six.stroke(0, -1), 6);
        due.is("ends as it has 6", six.stroke(0, -2), 3);
        due.is("higher by 5", six.stroke(0, -3), 5);
        due.is("the sixth", six.stroke(0, 5), 14);
        due.is("no seventh", six.stroke(0, 6), NONE);
        HillStrokes pit = Due.laid("g63;r543210;r543210;r543210;");
        pit.draw(0, 1);
        due.is("6 cells to the pit", pit.stroke(0, -1), 6);
        due.is("a pit is ahead of 6", pit.stroke(0, -2), 1);
        HillStrokes kept = Due.laid(SLOPE);
        kept.draw(7, 1);
        due.is("2 cells to the pit", kept.stroke(0, -1), 2);
        due.is("ends in a pit", kept.stroke(0, -2), 1);
        kept.draw(0, 1);
        due.is("6 cells to the other", kept.stroke(1, -1), 6);
        due.is("the other is ahead of 6", kept.stroke(1, -2), 2);
        HillStrokes near = Due.laid(SLOPE);
        near.draw(6, 0);
        near.draw(1, 1);
        due.is("4 cells, for the next is beside the other by a corner", near.stroke(1, -1), 4);
        due.is("so it ends", near.stroke(1, -2), 2);
        due.is("its last", near.stroke(1, 3), 13);
    }

    private static void endsAsDrawn() {
        HillStrokes h = Due.laid(SLOPE);
        h.draw(7, 1);
        h.draw(3, 1);
        due.is("3 cells", h.stroke(1, -1), 3);
        due.is("ends at the other", h.stroke(1, -2), 2);
        h.rub(0);
        due.is("as it was drawn", h.stroke(0, -2), 2);
        due.is("as long as it was", h.stroke(0, -1), 3);
        h.raise(8, 1, 9);
        due.is("still so", h.stroke(0, -2), 2);
    }

    private static void keepsOffOthersNotItself() {
        // The way winds round, so that its later cells are beside its earlier ones.
        HillStrokes h = Due.laid("g33;r987;r996;r945;");
        due.is("draw", h.draw(0, 0), 0);
        int[] cells = {0, 1, 2 + 9, 1 + 18};
        due.is("winds", h.stroke(0, -1), cells.length);
        for (int k = 0; k < cells.length; k++) {
            due.is("winds to " + k, h.stroke(0, k), cells[k]);
        }
        due.is("to the pit", h.stroke(0, -2), 1);
        due.is("by 5", h.stroke(0, -3), 5);
    }

    private static void rubbing() {
        HillStrokes h = Due.laid(SLOPE);
        h.draw(6, 1);
        h.draw(3, 1);
        h.draw(0, 1);
        int[] bad = {-1, 3, Integer.MIN_VALUE, Integer.MAX_VALUE};
        for (int s : bad) {
            due.is("rub " + s, h.rub(s), BAD);
        }
        due.is("rub 1", h.rub(1), 2);
        due.is("0 stays", h.stroke(0, 0), 15);
        due.is("2 is 1", h.stroke(1, 0), 9);
        due.is("no 2", h.stroke(2, 0), BAD);
        due.is("rub no 2", h.rub(2), BAD);
        due.is("free again", h.why(3, 1), 0);
        due.is("drawn again, at the end", h.draw(3, 1), 2);
        due.is("rub 0", h.rub(0), 2);
        due.is("rub 0 again", h.rub(0), 1);
        due.is("the last", h.stroke(0, 0), 12);
        due.is("rub the last", h.rub(0), 0);
        due.is("rub nothing", h.rub(0), BAD);
        due.is("undo", h.undo(), 5);
        due.is("back", h.stroke(0, 0), 12);
        due.is("undo again", h.undo(), 4);
        due.is("back in its place", h.stroke(0, 0), 9);
        due.is("behind it", h.stroke(1, 0), 12);
    }

    private static void hatchingTheSlope() {
        HillStrokes h = Due.laid(SLOPE);
        due.is("hatch", h.hatch(), 2);
        due.is("the first begins", h.stroke(0, 0), 1);
        due.is("and has 6", h.stroke(0, -1), 6);
        due.is("the second begins", h.stroke(1, 0), 19);
        due.is("one change", h.count(8), 1);
        due.is("hatch again", h.hatch(), 0);
        due.is("two changes", h.count(8), 2);
        due.is("undo nothing", h.undo(), 1);
        due.is("still two", h.count(3), 2);
        due.is("undo both", h.undo(), 0);
        due.is("none", h.count(3), 0);
    }

    private static void hatchingTheSteepestFirst() {
        // The steepest are in the lower rows, then in the middle ones.
        HillStrokes h = Due.laid("g39;r555;r555;r554;r333;r333;r333;r999;r333;r333;");
        due.is("hatch", h.hatch() > 1 ? 1 : 0, 1);
        for (int s = 0; s + 1 < h.count(3); s++) {
            int one = h.stroke(s, 0), next = h.stroke(s + 1, 0);
            int a = h.cell(one % 9, one / 9, 3), b = h.cell(next % 9, next / 9, 3);
            due.holds("stroke " + s + " is as steep as the next", a > b || a == b && one < next);
        }
        HillStrokes far = Due.laid("g39;r321;r321;r321;r000;r000;r000;r951;r951;r951;");
        far.hatch();
        due.is("the steepest, not the first", far.stroke(0, 0) / 9 >= 6 ? 1 : 0, 1);
    }

    private static void hatchingTheLowestOfLike() {
        // Four like peaks; each one's sides are as steep as another's.
        HillStrokes h = Due.laid("g99;r000000000;r090000090;r000000000;r000000000;r000000000;r000000000;"
            + "r000000000;r090000090;");
        due.is("hatch", h.hatch(), 4);
        int[] begins = {10, 16, 64, 70};
        for (int s = 0; s < 4; s++) {
            due.is("begins " + s, h.stroke(s, 0), begins[s]);
            due.is("goes up " + s, h.stroke(s, 1), begins[s] - 9);
        }
    }

    private static void hatchingOnTop() {
        HillStrokes h = Due.laid(SLOPE);
        h.draw(6, 1);
        due.is("hatch behind one", h.hatch(), 2);
        due.is("3 in all", h.count(3), 3);
        due.is("the drawn one stays 0", h.stroke(0, 0), 15);
        due.is("the next", h.stroke(1, 0), 1);
        due.is("ends at the drawn one", h.stroke(1, -2), 2);
        due.is("and the last", h.stroke(2, 0), 19);
        HillStrokes flat = Due.laid("g99;");
        due.is("hatch of the flat", flat.hatch(), 0);
    }

    private static void strokesAsked() {
        HillStrokes h = Due.laid(SLOPE);
        due.is("no stroke", h.stroke(0, -1), BAD);
        h.draw(6, 1);
        int[][] bad = {{-1, 0}, {1, 0}, {0, -4}, {0, Integer.MIN_VALUE}, {Integer.MAX_VALUE, 0}, {1, 9}, {19, 0},
            {20, 0}};
        for (int[] c : bad) {
            due.is("stroke " + c[0] + " " + c[1], h.stroke(c[0], c[1]), BAD);
        }
        due.is("not so many", h.stroke(0, 3), NONE);
        due.is("by far not so many", h.stroke(0, Integer.MAX_VALUE), NONE);
        due.is("higher by", h.stroke(0, -3), 2);
    }

    private static void whoseCells() {
        HillStrokes h = Due.laid(SLOPE);
        h.draw(6, 1);
        h.draw(3, 1);
        int[] whose = {NONE, NONE, NONE, 1, 1, NONE, 0, 0, 0};
        for (int x = 0; x < 9; x++) {
            due.is("whose " + x, h.whose(x, 1), whose[x]);
            due.is("whose above " + x, h.whose(x, 0), NONE);
        }
        h.rub(0);
        due.is("whose then", h.whose(4, 1), 0);
        due.is("nobody's", h.whose(7, 1), NONE);
    }

    private static void counts() {
        HillStrokes h = Due.laid("g53;r98765;r33321;r98765;s3;");
        h.draw(3, 0);
        // The stroke goes from (3, 0) by (3, 1) to the pit (4, 1); the whole middle row is a river.
        int[] counts = {5, 3, 3, 1, 3, 0, 5, 3, 1, 28, 82};
        for (int what = 0; what <= 10; what++) {
            due.is("count " + what, h.count(what), counts[what]);
        }
        int[] bad = {-1, 11, Integer.MIN_VALUE, Integer.MAX_VALUE};
        for (int what : bad) {
            due.is("count " + what, h.count(what), BAD);
        }
        HillStrokes two = Due.laid(SLOPE);
        two.hatch();
        due.is("cells of all strokes", two.count(4), 12);
        HillStrokes saddle = Due.laid("g33;r565;r454;r565;");
        due.is("a saddle's ridges", saddle.count(5), 3);
        due.is("a saddle's rivers", saddle.count(6), 3);
        due.is("pits", saddle.count(7), 2);
    }
}
