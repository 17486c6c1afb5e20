/** Promises 10 to 12: cell, flow, basin. */
final class SlopesTest {
    private static final int BAD = HillStrokes.BAD, NONE = HillStrokes.NONE;

    private static final Due due = new Due();

    public static void main(String[] args) {
        badCells();
        eastSouthSteep();
        down();
        ridgesAndRivers();
        ridgesAtTheEdge();
        quarters();
        tones();
        tonesOfRidgesAndRivers();
        shadesOfCells();
        flows();
        basins();
        due.end();
    }

    private static void badCells() {
        HillStrokes h = Due.laid("g43;");
        int[][] bad = {{-1, 0}, {4, 0}, {0, -1}, {0, 3}, {3, 3}, {Integer.MIN_VALUE, 0}, {0, Integer.MAX_VALUE}};
        for (int[] c : bad) {
            for (int what = -1; what <= 10; what++) {
                due.is("cell " + c[0] + " " + c[1] + " " + what, h.cell(c[0], c[1], what), BAD);
                due.is("flow " + c[0] + " " + c[1] + " " + what, h.flow(c[0], c[1], what), BAD);
            }
            due.is("basin " + c[0] + " " + c[1], h.basin(c[0], c[1]), BAD);
        }
        int[] whats = {-1, 10, Integer.MIN_VALUE, Integer.MAX_VALUE};
        for (int what : whats) {
            due.is("cell 0 0 " + what, h.cell(0, 0, what), BAD);
            due.is("flow 0 0 " + what, h.flow(0, 0, what), BAD);
        }
        due.is("flow 0 0 2", h.flow(0, 0, 2), BAD);
        due.is("the last cell is one", h.cell(3, 2, 0), 0);
    }

    private static void eastSouthSteep() {
        HillStrokes h = Due.laid("g43;r1234;r5678;r9012;");
        int[][] east = {{0, 0, 1}, {1, 0, 2}, {3, 0, 1}, {0, 2, -9}, {1, 2, -8}, {3, 2, 1}};
        for (int[] c : east) {
            due.is("east " + c[0] + " " + c[1], h.cell(c[0], c[1], 1), c[2] + 100);
        }
        int[][] south = {{0, 0, 4}, {0, 1, 8}, {1, 1, -2}, {3, 2, -6}, {0, 2, 4}};
        for (int[] c : south) {
            due.is("south " + c[0] + " " + c[1], h.cell(c[0], c[1], 2), c[2] + 100);
        }
        due.is("steep 1 1", h.cell(1, 1, 3), 4);
        due.is("steep 0 2", h.cell(0, 2, 3), 13);
        due.is("steep 3 2", h.cell(3, 2, 3), 7);
        due.is("height 3 1", h.cell(3, 1, 0), 8);
    }

    private static void down() {
        HillStrokes h = Due.laid("g43;r1234;r5678;r9012;");
        due.is("down 1 1", h.cell(1, 1, 4), 4);
        due.is("down of a pit", h.cell(0, 0, 4), NONE);
        due.is("down of the lowest", h.cell(1, 2, 4), NONE);
        for (int d = 0; d < 8; d++) {
            due.is("down alone " + d, Grounds.ring(5, 5, Grounds.beside(d, 4)).cell(1, 1, 4), d);
            due.is("up alone " + d, Grounds.ring(5, 5, Grounds.beside(d, 6)).cell(1, 1, 4), NONE);
            for (int e = d + 1; e < 8; e++) {
                int dFall = d % 2 == 0 ? 3 : 2;
                int eFall = e % 2 == 0 ? 3 : 2;
                due.is("down of " + d + " and " + e, Grounds.ring(5, 5, Grounds.beside(d, 4), Grounds.beside(e, 4)).cell(1, 1, 4),
                    eFall > dFall ? e : d);
            }
        }
        due.is("6 and 6, the lowest", Grounds.ring(3, 9, Grounds.beside(1, 0), Grounds.beside(2, 1)).cell(1, 1, 4), 1);
        due.is("6 and 6, the lowest again", Grounds.ring(3, 9, Grounds.beside(0, 1), Grounds.beside(1, 0)).cell(1, 1, 4), 0);
        due.is("6 ahead of 3", Grounds.ring(3, 9, Grounds.beside(0, 2), Grounds.beside(3, 0)).cell(1, 1, 4), 3);
        due.is("6 ahead of 4", Grounds.ring(3, 9, Grounds.beside(4, 1), Grounds.beside(3, 1)).cell(1, 1, 4), 4);
        due.is("all like", Grounds.ring(9, 0).cell(1, 1, 4), 0);
    }

    private static void ridgesAndRivers() {
        for (int d = 0; d < 8; d++) {
            for (int e = d + 1; e < 8; e++) {
                int opposite = e == d + 4 ? 1 : 0;
                HillStrokes ridge = Grounds.ring(5, 5, Grounds.beside(d, 4), Grounds.beside(e, 4));
                due.is("ridge " + d + " " + e, ridge.cell(1, 1, 5), opposite);
                due.is("no river " + d + " " + e, ridge.cell(1, 1, 6), 0);
                HillStrokes river = Grounds.ring(5, 5, Grounds.beside(d, 6), Grounds.beside(e, 6));
                due.is("river " + d + " " + e, river.cell(1, 1, 6), opposite);
                due.is("no ridge " + d + " " + e, river.cell(1, 1, 5), 0);
                HillStrokes slope = Grounds.ring(5, 5, Grounds.beside(d, 4), Grounds.beside(e, 6));
                due.is("slope, no ridge " + d + " " + e, slope.cell(1, 1, 5), 0);
                due.is("slope, no river " + d + " " + e, slope.cell(1, 1, 6), 0);
            }
        }
        HillStrokes saddle = Grounds.ring(5, 5, Grounds.beside(2, 4), Grounds.beside(6, 4), Grounds.beside(0, 6), Grounds.beside(4, 6));
        due.is("a saddle is a ridge", saddle.cell(1, 1, 5), 1);
        due.is("and a river", saddle.cell(1, 1, 6), 1);
    }

    private static void ridgesAtTheEdge() {
        HillStrokes h = Due.laid("g33;r090;r909;r090;");
        due.is("ridge in the upper row", h.cell(1, 0, 5), 1);
        due.is("ridge in the left column", h.cell(0, 1, 5), 1);
        due.is("river in the middle", h.cell(1, 1, 6), 1);
        due.is("a corner has no two", h.cell(0, 0, 6), 0);
        HillStrokes corner = Due.laid("g33;r900;r000;r000;");
        due.is("a corner is no ridge", corner.cell(0, 0, 5), 0);
        HillStrokes edge = Due.laid("g33;r090;r000;r000;");
        due.is("ridge by the two beside", edge.cell(1, 0, 5), 1);
        HillStrokes half = Due.laid("g33;r099;r000;r000;");
        due.is("not by one and the edge", half.cell(1, 0, 5), 0);
        due.is("nor in the corner", half.cell(2, 0, 5), 0);
    }

    private static void quarters() {
        int[][] sizes = {{3, 3}, {4, 3}, {9, 9}, {8, 5}, {3, 8}, {7, 6}};
        for (int[] size : sizes) {
            HillStrokes h = Due.laid("g" + size[0] + size[1] + ";");
            for (int y = 0; y < size[1]; y++) {
                for (int x = 0; x < size[0]; x++) {
                    int quarter = (x < size[0] / 2 ? 0 : 1) + (y < size[1] / 2 ? 0 : 2);
                    due.is("quarter " + x + " " + y, h.cell(x, y, 7), quarter);
                }
            }
        }
        HillStrokes seven = new HillStrokes();
        due.is("quarter 2 2 of 7", seven.cell(2, 2, 7), 0);
        due.is("quarter 3 2 of 7", seven.cell(3, 2, 7), 1);
        due.is("quarter 2 3 of 7", seven.cell(2, 3, 7), 2);
        due.is("quarter 3 3 of 7", seven.cell(3, 3, 7), 3);
    }

    private static void tones() {
        // In the middle EAST is 2 and SOUTH is 6.
        HillStrokes h = Due.laid("g33;r012;r345;r678;l0000;");
        int[] middle = {6, 4, -2, -8, -6, -4, 2, 8};
        for (int d = 0; d < 8; d++) {
            h.light(3, d);
            due.is("tone by " + d, h.cell(1, 1, 8), middle[d] + 100);
            due.is("tone of the corner by 0", h.cell(0, 0, 8), 103);
        }
    }

    private static void tonesOfRidgesAndRivers() {
        // Higher than those above and below, and EAST is -9.
        HillStrokes ridge = Grounds.ring(5, 5, Grounds.beside(0, 4), Grounds.beside(4, 4), Grounds.beside(6, 9), Grounds.beside(2, 0));
        ridge.light(3, 2);
        due.is("a lighter ridge", ridge.cell(1, 1, 8), 109);
        ridge.light(3, 6);
        due.is("a ridge is 4 at least", ridge.cell(1, 1, 8), 104);
        ridge.light(3, 0);
        due.is("a ridge is 4, not 0", ridge.cell(1, 1, 8), 104);
        HillStrokes river = Grounds.ring(5, 5, Grounds.beside(0, 6), Grounds.beside(4, 6), Grounds.beside(6, 9), Grounds.beside(2, 0));
        river.light(3, 2);
        due.is("a river is -4 at most", river.cell(1, 1, 8), 96);
        river.light(3, 6);
        due.is("a darker river", river.cell(1, 1, 8), 91);
        river.light(3, 4);
        due.is("a river is -4, not 0", river.cell(1, 1, 8), 96);
        HillStrokes both = Grounds.ring(5, 5, Grounds.beside(2, 4), Grounds.beside(6, 4), Grounds.beside(0, 6), Grounds.beside(4, 6));
        due.is("one that is both is dark", both.cell(1, 1, 8), 96);
        HillStrokes light = Grounds.ring(5, 5, Grounds.beside(1, 6), Grounds.beside(5, 6), Grounds.beside(0, 4), Grounds.beside(4, 4), Grounds.beside(6, 9), Grounds.beside(2, 0));
        light.light(3, 2);
        due.is("both, of tone 9", light.cell(1, 1, 8), 96);
        light.light(3, 6);
        due.is("both, of tone -9, is lifted to 4 first", light.cell(1, 1, 8), 96);
    }

    private static void shadesOfCells() {
        // Tones 4 5 4, 7 8 7, 4 5 4.
        HillStrokes h = Due.laid("g33;r012;r345;r678;l7777;");
        int[] four = {0, 1, 0, 2, 3, 2, 0, 1, 0};
        int[] three = {0, 1, 0, 2, 2, 2, 0, 1, 0};
        int[] two = {0, 0, 0, 1, 1, 1, 0, 0, 0};
        int[][] by = {two, three, four, four, four};
        for (int n = 2; n <= 6; n++) {
            h.shades(n);
            for (int i = 0; i < 9; i++) {
                due.is("shade of " + i + " of " + n, h.cell(i % 3, i / 3, 9), by[n - 2][i]);
            }
        }
    }

    private static void flows() {
        HillStrokes h = Due.laid("g93;r987654329;r999999991;r999999990;");
        due.is("the longest way", h.flow(0, 0, 1), 9);
        due.is("its pit", h.flow(0, 0, 0), 26);
        due.is("from one on the way", h.flow(7, 0, 1), 2);
        due.is("from beside", h.flow(8, 0, 1), 2);
        due.is("a pit's own way", h.flow(8, 2, 1), 0);
        due.is("a pit's own pit", h.flow(8, 2, 0), 26);
        due.is("a high pit", h.flow(3, 2, 0), 21);
        due.is("a high pit's way", h.flow(3, 2, 1), 0);
        HillStrokes tall = Due.laid("g39;r999;r888;r777;r666;r555;r444;r333;r222;r111;");
        due.is("down a column", tall.flow(2, 0, 0), 74);
        due.is("so many on", tall.flow(2, 0, 1), 8);
    }

    private static void basins() {
        HillStrokes h = Due.laid("g93;r987654329;r999999991;r999999990;");
        due.is("all but the high pits", h.basin(8, 2), 20);
        due.is("a pit alone", h.basin(0, 2), 1);
        due.is("no pit", h.basin(0, 0), 0);
        due.is("no pit on the way", h.basin(8, 1), 0);
        HillStrokes first = new HillStrokes();
        int sum = 0;
        for (int i = 0; i < 49; i++) {
            int basin = first.basin(i % 7, i / 7);
            sum += basin;
            due.is("a pit has a basin " + i, basin > 0 ? 1 : 0, first.flow(i % 7, i / 7, 1) == 0 ? 1 : 0);
        }
        due.is("each cell is of one basin", sum, 49);
    }
}
