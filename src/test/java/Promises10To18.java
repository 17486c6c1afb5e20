/** The edges of the promises 10 to 18 themselves: cell, flow, basin, contrast, best, turn, shade, error, level. */
final class Promises10To18 {
    private static final int BAD = HillStrokes.BAD, NO = HillStrokes.NO, NONE = HillStrokes.NONE;
    private static final String CELL = "Of a CELL: HEIGHT (what = 0), EAST and ZERO (1), SOUTH and ZERO (2), STEEP (3), "
        + "DOWN (4; NONE), 1 if it is a RIDGE (5), a RIVER (6), its QUARTER (7), TONE and ZERO (8), SHADE (9).";
    private static final String BASIN = "How many CELLS there are from which FLOW ends in a CELL (itself, too; "
        + "0: it is no PIT).";
    /** Numbers that are far from any that is told. */
    private static final int[] FAR = {Integer.MIN_VALUE, Integer.MAX_VALUE, -1000, 1000};

    // ---- 10 cell

    @Edge(promise = 10, words = CELL)
    static void promise10FromTheFirstToTheLastWhat(Due due) {
        // The tones are -10, -7, -4, 1, 2, 3 and 4; with 6 shades 3 and 4 are in one group.
        HillStrokes h = Due.laid("g33;r729;r543;r170;s6;");
        int[] middle = {4, 98, 105, 7, 3, 0, 0, 3, 103, 5};
        int[] river = {2, 102, 102, 4, NONE, 0, 1, 1, 96, 2};
        int[] ridge = {7, 99, 103, 4, 2, 1, 0, 3, 104, 5};
        for (int what = 0; what <= 9; what++) {
            due.is("of the middle, what " + what, h.cell(1, 1, what), middle[what]);
            due.is("of a river, what " + what, h.cell(1, 0, what), river[what]);
            due.is("of a ridge, what " + what, h.cell(1, 2, what), ridge[what]);
        }
    }

    @Edge(promise = 10, words = "DOWN (4; NONE)")
    static void promise10NoWayDown(Due due) {
        due.is("of a pit", Due.laid("g33;").cell(1, 1, 4), NONE);
        due.is("up is 0, not none", Due.laid("g33;r505;r555;r555;").cell(1, 1, 4), 0);
    }

    @Edge(promise = 10, words = "BAD.")
    static void promise10NoSuchCellOrWhat(Due due) {
        HillStrokes h = new HillStrokes();
        due.is("below the first what", h.cell(0, 0, -1), BAD);
        due.is("above the last what", h.cell(0, 0, 10), BAD);
        for (int far : FAR) {
            due.is("what " + far, h.cell(0, 0, far), BAD);
            due.is("x " + far, h.cell(far, 0, 0), BAD);
            due.is("y " + far, h.cell(0, far, 0), BAD);
        }
        for (int what = 0; what <= 9; what++) {
            due.is("left of all", h.cell(-1, 0, what), BAD);
            due.is("right of all", h.cell(7, 0, what), BAD);
            due.is("above all", h.cell(0, -1, what), BAD);
            due.is("below all", h.cell(0, 7, what), BAD);
        }
    }

    // ---- 11 flow

    @Edge(promise = 11, words = "FLOW from a CELL: the PIT, 9 y and x together (what = 0)")
    static void promise11TheFirstAndTheLastPit(Due due) {
        HillStrokes h = Grounds.even(9, 9, 9);
        due.is("the first", h.flow(0, 0, 0), 0);
        due.is("the last", h.flow(8, 8, 0), 80);
        HillStrokes small = Due.laid("g33;");
        due.is("9 y, though there are 3 columns", small.flow(1, 2, 0), 19);
    }

    @Edge(promise = 11, words = "how many CELLS on, DOWN (1; 0: it is one).")
    static void promise11APit(Due due) {
        HillStrokes h = Due.laid("g33;r100;");
        due.is("a pit", h.flow(1, 0, 1), 0);
        due.is("beside a pit", h.flow(0, 0, 1), 1);
        due.is("its pit", h.flow(0, 0, 0), 1);
    }

    @Edge(promise = 11, words = "BAD.")
    static void promise11NoSuchCellOrWhat(Due due) {
        HillStrokes h = new HillStrokes();
        due.is("below the first what", h.flow(0, 0, -1), BAD);
        due.is("above the last what", h.flow(0, 0, 2), BAD);
        for (int what = 0; what <= 1; what++) {
            due.is("left of all", h.flow(-1, 0, what), BAD);
            due.is("right of all", h.flow(7, 0, what), BAD);
            due.is("above all", h.flow(0, -1, what), BAD);
            due.is("below all", h.flow(0, 7, what), BAD);
        }
        for (int far : FAR) {
            due.is("what " + far, h.flow(0, 0, far), BAD);
            due.is("x " + far, h.flow(far, 0, 0), BAD);
            due.is("y " + far, h.flow(0, far, 0), BAD);
        }
    }

    // ---- 12 basin

    @Edge(promise = 12, words = BASIN)
    static void promise12ItselfToo(Due due) {
        due.is("a pit alone", Due.laid("g33;").basin(0, 0), 1);
        due.is("a pit of all", Due.laid("g33;r555;r505;r555;").basin(1, 1), 9);
        HillStrokes h = Grounds.slope(3);
        due.is("a pit of its row", h.basin(8, 1), 9);
    }

    @Edge(promise = 12, words = BASIN)
    static void promise12NoPit(Due due) {
        HillStrokes h = Due.laid("g33;r210;");
        due.is("of one through which it flows", h.basin(1, 0), 0);
        due.is("of one in which it begins", h.basin(0, 0), 0);
        due.is("of the pit", h.basin(2, 0) > 0 ? 1 : 0, 1);
    }

    @Edge(promise = 12, words = BASIN)
    static void promise12EachCellIsInOneBasin(Due due) {
        HillStrokes h = new HillStrokes();
        int sum = 0;
        for (int i = 0; i < 49; i++) {
            sum += h.basin(i % 7, i / 7);
        }
        due.is("all basins together", sum, 49);
    }

    @Edge(promise = 12, words = "BAD.")
    static void promise12NoSuchCell(Due due) {
        HillStrokes h = Due.laid("g34;");
        int[][] bad = {{-1, 0}, {3, 0}, {0, -1}, {0, 4}};
        for (int[] c : bad) {
            due.is("basin " + c[0] + " " + c[1], h.basin(c[0], c[1]), BAD);
        }
        for (int far : FAR) {
            due.is("x " + far, h.basin(far, 0), BAD);
            due.is("y " + far, h.basin(0, far), BAD);
        }
    }

    // ---- 13 contrast

    @Edge(promise = 13, words = "CONTRAST of a QUARTER by a LIGHT.")
    static void promise13TheFirstAndTheLast(Due due) {
        HillStrokes h = Due.laid("g33;r012;r345;r678;");
        due.is("the first of both", h.contrast(0, 0), 0);
        due.is("the last of both", h.contrast(3, 7), 4);
        due.is("the first by the last", h.contrast(0, 7), 0);
        due.is("the last by the first", h.contrast(3, 0), 3);
    }

    @Edge(promise = 13, words = "BAD.")
    static void promise13NoSuchQuarterOrLight(Due due) {
        HillStrokes h = new HillStrokes();
        int[][] bad = {{-1, 0}, {4, 0}, {0, -1}, {0, 8}, {-1, -1}, {4, 8}};
        for (int[] c : bad) {
            due.is("contrast " + c[0] + " " + c[1], h.contrast(c[0], c[1]), BAD);
        }
        for (int far : FAR) {
            due.is("quarter " + far, h.contrast(far, 0), BAD);
            due.is("light " + far, h.contrast(0, far), BAD);
        }
    }

    // ---- 14 best

    @Edge(promise = 14, words = "BEST LIGHTS: that of a QUARTER (q 0 to 3), all CONTRASTS together (q = -1).")
    static void promise14TheFirstAndTheLastQuarter(Due due) {
        HillStrokes h = Due.laid("g44;r2622;r5250;r3510;r5756;");
        due.is("the first", h.best(0), 7);
        due.is("the one that is another", h.best(2), 0);
        due.is("the last", h.best(3), 7);
        due.is("together", h.best(-1), 43);
    }

    @Edge(promise = 14, words = "BAD.")
    static void promise14NoSuchQuarter(Due due) {
        HillStrokes h = new HillStrokes();
        due.is("below all", h.best(-2), BAD);
        due.is("above all", h.best(4), BAD);
        for (int far : FAR) {
            due.is("best " + far, h.best(far), BAD);
        }
    }

    @Edge(promise = 14, words = "BEST LIGHTS: that of a QUARTER (q 0 to 3), all CONTRASTS together (q = -1).")
    static void promise14NothingIsTold(Due due) {
        HillStrokes h = Due.laid("g33;l1234;");
        h.best(-1);
        h.best(0);
        due.is("changes", h.count(8), 0);
        due.is("the light", h.light(0, 1), NO);
    }

    // ---- 15 turn

    @Edge(promise = 15, words = "BEST LIGHTS are told: in how many QUARTERS it is another one.")
    static void promise15InNoneToAllFour(Due due) {
        String[] lights = {"0000", "0001", "1000", "0110", "1011", "7777"};
        int[] turned = {0, 1, 1, 2, 3, 4};
        for (int i = 0; i < lights.length; i++) {
            HillStrokes h = Due.laid("g33;l" + lights[i] + ";");
            due.is("turn from " + lights[i], h.turn(), turned[i]);
            for (int q = 0; q < 4; q++) {
                due.is("light " + q, h.light(q, 0), NO);
            }
            due.is("turn again", h.turn(), 0);
        }
    }

    @Edge(promise = 15, words = "BEST LIGHTS are told: in how many QUARTERS it is another one.")
    static void promise15EachQuarterItsOwn(Due due) {
        HillStrokes h = Due.laid("g44;r2120;r1232;r3320;r1121;");
        due.is("turn", h.turn(), 3);
        int[] best = {6, 5, 7, 6};
        for (int q = 0; q < 4; q++) {
            due.is("light " + q, h.light(q, best[q]), NO);
        }
    }

    // ---- 16 shade

    @Edge(promise = 16, words = "THE SHADES: how many GROUPS (k = -1), ERROR (k = -2), MARK and ZERO of the k-th GROUP.")
    static void promise16FromTheLeastToTheLastK(Due due) {
        HillStrokes h = Due.laid("g33;r891;r733;r923;s2;");
        due.is("error", h.shade(-2), 14);
        due.is("groups", h.shade(-1), 2);
        due.is("the first", h.shade(0), 94);
        due.is("the last", h.shade(1), 101);
    }

    @Edge(promise = 16, words = "BAD (k below -2);")
    static void promise16BelowAll(Due due) {
        HillStrokes h = new HillStrokes();
        due.is("shade -3", h.shade(-3), BAD);
        due.is("shade -1000", h.shade(-1000), BAD);
        due.is("the least number", h.shade(Integer.MIN_VALUE), BAD);
    }

    @Edge(promise = 16, words = "NONE: not so many.")
    static void promise16NotSoMany(Due due) {
        HillStrokes h = new HillStrokes();
        due.is("the last of four", h.shade(3) >= 0 ? 1 : 0, 1);
        due.is("a fifth", h.shade(4), NONE);
        due.is("a sixth", h.shade(5), NONE);
        due.is("a seventh", h.shade(6), NONE);
        due.is("the greatest number", h.shade(Integer.MAX_VALUE), NONE);
        HillStrokes flat = Due.laid("g33;s6;");
        due.is("a second of the flat, though six are told", flat.shade(1), NONE);
    }

    // ---- 17 error

    @Edge(promise = 17, words = "ERROR, had there to be n SHADES (2 to 6).")
    static void promise17TheFewestAndTheMost(Due due) {
        HillStrokes h = new HillStrokes();
        for (int n = 2; n <= 6; n++) {
            int error = h.error(n);
            h.shades(n);
            due.is("as if " + n + " were told", error, h.shade(-2));
        }
        due.is("none is told by it", h.count(2), 6);
        due.is("the fewest", Due.laid("g33;r891;r733;r923;").error(2), 14);
    }

    @Edge(promise = 17, words = "BAD.")
    static void promise17TooFewOrTooMany(Due due) {
        HillStrokes h = new HillStrokes();
        due.is("error 1", h.error(1), BAD);
        due.is("error 7", h.error(7), BAD);
        due.is("error 0", h.error(0), BAD);
        due.is("error -1", h.error(-1), BAD);
        for (int far : FAR) {
            due.is("error " + far, h.error(far), BAD);
        }
    }

    // ---- 18 level

    @Edge(promise = 18, words = "LEVEL v: HILLS (what = 0), how long its LINE is (1), how many CELLS (2).")
    static void promise18TheLowestAndTheHighest(Due due) {
        HillStrokes h = Due.laid("g33;r109;r000;r900;");
        int[][] levels = {{1, 3, 6, 3}, {2, 2, 4, 2}, {9, 2, 4, 2}};
        // (1, 0) is between two that are up, and counts for both.
        for (int[] level : levels) {
            due.is("hills of " + level[0], h.level(level[0], 0), level[1]);
            due.is("line of " + level[0], h.level(level[0], 1), level[2]);
            due.is("cells of " + level[0], h.level(level[0], 2), level[3]);
        }
    }

    @Edge(promise = 18, words = "BAD.")
    static void promise18NoSuchLevelOrWhat(Due due) {
        HillStrokes h = new HillStrokes();
        for (int what = 0; what <= 2; what++) {
            due.is("level 0", h.level(0, what), BAD);
            due.is("level 10", h.level(10, what), BAD);
            due.is("level -1", h.level(-1, what), BAD);
        }
        for (int v = 1; v <= 9; v++) {
            due.is("what -1", h.level(v, -1), BAD);
            due.is("what 3", h.level(v, 3), BAD);
        }
        for (int far : FAR) {
            due.is("level " + far, h.level(far, 0), BAD);
            due.is("what " + far, h.level(1, far), BAD);
        }
    }
}
