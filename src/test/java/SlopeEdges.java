/** The edges of section 2 of the document: slopes, ways down, light and tones. */
final class SlopeEdges {
    private static final int NO = HillStrokes.NO, NONE = HillStrokes.NONE;
    private static final String EAST = "EAST of a CELL: HEIGHT of the one to its right less that of the one to its left "
        + "(its own in place of one that there is not)";
    private static final String FALL = "FALL from a CELL in a DIRECTION: its HEIGHT less that of the one beside it, "
        + "times 3 (DIRECTIONS 0, 2, 4, 6), times 2 (the others).";
    private static final String RIDGE = "A RIDGE is a CELL that is higher than both CELLS beside it in two DIRECTIONS "
        + "opposite to one another (both there)";
    private static final String RIVER = "a RIVER one that is lower than both, in any such two";
    private static final String QUARTERS = "QUARTERS: 0 CELLS with x less than W by 2, cut, and y less than H by 2, cut; "
        + "1 with y so, x not; 2 with x so, y not; 3 with neither.";
    private static final String TONE = "TONE of a CELL: with a the step to the right (1, 0, -1) and b the step down of "
        + "that DIRECTION in its QUARTER: nothing less a times EAST and b times SOUTH together;";
    private static final String CONTRAST = "CONTRAST of a QUARTER by a LIGHT: the greatest TONE of its CELLS less the least.";
    private static final String APART = "BEST LIGHTS: of all LIGHTS of the four such that those of 0 and 1, 2 and 3, "
        + "0 and 2, 1 and 3 are no more than one DIRECTION apart";
    private static final String ROUND = "round the shorter way (7 and 0 are one apart), those by which all CONTRASTS "
        + "together are greatest";
    private static final String FIRST = "of several the first (by that of 0, the lowest ahead, then of 1, 2, 3)";

    private static HillStrokes ring(int middle, int others, int[]... changes) {
        return Grounds.ring(middle, others, changes);
    }

    private static int[] beside(int d, int height) {
        return Grounds.beside(d, height);
    }

    private static int downOf(int middle, int others, int[]... changes) {
        return ring(middle, others, changes).cell(1, 1, 4);
    }

    // ---- slopes

    @Edge(promise = 10, words = EAST)
    static void eastAtTheSides(Due due) {
        HillStrokes h = Due.laid("g43;r1259;");
        due.is("nothing to the left", h.cell(0, 0, 1), 101);
        due.is("both there", h.cell(1, 0, 1), 104);
        due.is("nothing to the right", h.cell(3, 0, 1), 104);
    }

    @Edge(promise = 10, words = EAST)
    static void theGreatestAndTheLeastEast(Due due) {
        HillStrokes h = Due.laid("g33;r059;r950;");
        due.is("the greatest", h.cell(1, 0, 1), 109);
        due.is("the least", h.cell(1, 1, 1), 91);
        due.is("of the flat", h.cell(1, 2, 1), 100);
    }

    @Edge(promise = 10, words = "SOUTH: below it, above it, likewise.")
    static void southAtTheSides(Due due) {
        HillStrokes h = Due.laid("g34;r100;r200;r500;r900;");
        due.is("nothing above", h.cell(0, 0, 2), 101);
        due.is("both there", h.cell(0, 1, 2), 104);
        due.is("nothing below", h.cell(0, 3, 2), 104);
    }

    @Edge(promise = 10, words = "SOUTH: below it, above it, likewise.")
    static void theGreatestAndTheLeastSouth(Due due) {
        HillStrokes h = Due.laid("g33;r090;r550;r900;");
        due.is("the greatest", h.cell(0, 1, 2), 109);
        due.is("the least", h.cell(1, 1, 2), 91);
        due.is("of the flat", h.cell(2, 1, 2), 100);
    }

    @Edge(promise = 10, words = "STEEP: EAST and SOUTH, both without their signs, together.")
    static void steepWithoutSigns(Due due) {
        due.is("EAST 9, SOUTH -9", ring(5, 5, beside(2, 9), beside(6, 0), beside(0, 9), beside(4, 0)).cell(1, 1, 3), 18);
        due.is("EAST -9, SOUTH 9", ring(5, 5, beside(2, 0), beside(6, 9), beside(0, 0), beside(4, 9)).cell(1, 1, 3), 18);
        due.is("EAST -1, SOUTH 0", ring(5, 5, beside(2, 4)).cell(1, 1, 3), 1);
        due.is("the flat", ring(5, 5).cell(1, 1, 3), 0);
    }

    @Edge(promise = 10, words = FALL)
    static void straightFallsAreTimes3AndOthersTimes2(Due due) {
        due.is("3 ahead of 2", downOf(5, 9, beside(1, 4), beside(2, 4)), 2);
        due.is("4 ahead of 3", downOf(5, 9, beside(0, 4), beside(1, 3)), 1);
        due.is("6 ahead of 4", downOf(5, 9, beside(3, 3), beside(4, 3)), 4);
        due.is("8 ahead of 6", downOf(5, 9, beside(4, 3), beside(5, 1)), 5);
        due.is("6 as 6", downOf(5, 9, beside(1, 2), beside(2, 3)), 1);
        due.is("18 as 18", downOf(9, 9, beside(6, 3), beside(7, 0)), 6);
    }

    @Edge(promise = 10, words = "DOWN is the DIRECTION of the greatest FALL, of several the lowest;")
    static void theLowestOfLikeFalls(Due due) {
        for (int d = 0; d < 8; d++) {
            for (int e = d + 2; e < 8; e += 2) {
                due.is(d + " and " + e, downOf(5, 5, beside(d, 4), beside(e, 4)), d);
            }
        }
        due.is("all like", downOf(9, 0), 0);
        due.is("7 and 0 by 6", downOf(5, 5, beside(7, 2), beside(0, 3)), 0);
    }

    @Edge(promise = 10, words = "none, if no FALL is above 0 (it is a PIT)")
    static void noFallAbove0(Due due) {
        due.is("all like, a fall of 0", downOf(5, 5), NONE);
        due.is("all higher", downOf(5, 6), NONE);
        due.is("of the least height", downOf(0, 0), NONE);
        due.is("of the greatest height", downOf(9, 9), NONE);
        due.is("one lower by one", downOf(5, 9, beside(7, 4)), 7);
    }

    // ---- ridges and rivers

    @Edge(promise = 10, words = RIDGE)
    static void higherThanBothOfEachTwo(Due due) {
        for (int d = 0; d < 8; d++) {
            for (int e = d + 1; e < 8; e++) {
                int opposite = e == d + 4 ? 1 : 0;
                due.is("ridge by " + d + " and " + e, ring(5, 5, beside(d, 4), beside(e, 4)).cell(1, 1, 5), opposite);
            }
        }
    }

    @Edge(promise = 10, words = RIDGE)
    static void asHighAsOneIsNoRidge(Due due) {
        for (int d = 0; d < 8; d++) {
            due.is("higher than one", ring(5, 5, beside(d, 0)).cell(1, 1, 5), 0);
            due.is("lower than the other", ring(5, 5, beside(d, 0), beside((d + 4) % 8, 6)).cell(1, 1, 5), 0);
        }
    }

    @Edge(promise = 10, words = RIDGE)
    static void ridgesAtTheSides(Due due) {
        int[][] corners = {{0, 0}, {2, 0}, {0, 2}, {2, 2}};
        for (int[] c : corners) {
            due.is("in a corner " + c[0] + " " + c[1], ring(0, 0, new int[] {c[0], c[1], 9}).cell(c[0], c[1], 5), 0);
        }
        for (int d = 0; d < 8; d += 2) {
            int[] at = beside(d, 9);
            due.is("in the middle of side " + d, ring(0, 0, at).cell(at[0], at[1], 5), 1);
        }
        HillStrokes half = Due.laid("g33;r099;");
        due.is("higher than one and the other like", half.cell(1, 0, 5), 0);
        due.is("higher than one and the other not there", half.cell(2, 0, 5), 0);
    }

    @Edge(promise = 10, words = RIVER)
    static void lowerThanBothOfEachTwo(Due due) {
        for (int d = 0; d < 8; d++) {
            for (int e = d + 1; e < 8; e++) {
                int opposite = e == d + 4 ? 1 : 0;
                due.is("river by " + d + " and " + e, ring(5, 5, beside(d, 6), beside(e, 6)).cell(1, 1, 6), opposite);
            }
        }
    }

    @Edge(promise = 10, words = RIVER)
    static void asLowAsOneIsNoRiver(Due due) {
        for (int d = 0; d < 8; d++) {
            due.is("lower than one", ring(5, 5, beside(d, 9)).cell(1, 1, 6), 0);
            due.is("higher than the other", ring(5, 5, beside(d, 9), beside((d + 4) % 8, 4)).cell(1, 1, 6), 0);
        }
    }

    @Edge(promise = 10, words = RIVER)
    static void riversAtTheSides(Due due) {
        int[][] corners = {{0, 0}, {2, 0}, {0, 2}, {2, 2}};
        for (int[] c : corners) {
            due.is("in a corner " + c[0] + " " + c[1], ring(9, 9, new int[] {c[0], c[1], 0}).cell(c[0], c[1], 6), 0);
        }
        for (int d = 0; d < 8; d += 2) {
            int[] at = beside(d, 0);
            due.is("in the middle of side " + d, ring(9, 9, at).cell(at[0], at[1], 6), 1);
        }
    }

    @Edge(promise = {10, 25}, words = "a CELL may be both.")
    static void ridgeAndRiverInOne(Due due) {
        HillStrokes saddle = Due.laid("g33;r565;r555;r565;");
        saddle.raise(0, 1, 4);
        saddle.raise(2, 1, 4);
        due.is("a ridge", saddle.cell(1, 1, 5), 1);
        due.is("a river", saddle.cell(1, 1, 6), 1);
        due.is("ridges: it, and the two above and below", saddle.count(5), 3);
        due.is("rivers: it, and the two beside", saddle.count(6), 3);
    }

    @Edge(promise = 11, words = "FLOW from a CELL: DOWN again and again till a PIT.")
    static void theShortestAndTheLongestFlow(Due due) {
        HillStrokes h = Due.laid("g93;r987654329;r999999991;r999999990;");
        due.is("from a pit", h.flow(8, 2, 1), 0);
        due.is("from beside it", h.flow(8, 1, 1), 1);
        due.is("through all heights", h.flow(0, 0, 1), 9);
        due.is("to the pit", h.flow(0, 0, 0), 26);
    }

    // ---- light

    @Edge(promise = 10, words = QUARTERS)
    static void quartersOfAnOddNumber(Due due) {
        HillStrokes h = Due.laid("g39;");
        int[][] cells = {{0, 3, 0}, {1, 3, 1}, {0, 4, 2}, {1, 4, 3}, {0, 0, 0}, {2, 0, 1}, {0, 8, 2}, {2, 8, 3}};
        for (int[] c : cells) {
            due.is("of 3 by 9: " + c[0] + " " + c[1], h.cell(c[0], c[1], 7), c[2]);
        }
        HillStrokes wide = Due.laid("g93;");
        int[][] others = {{3, 0, 0}, {4, 0, 1}, {3, 1, 2}, {4, 1, 3}, {0, 0, 0}, {8, 0, 1}, {0, 2, 2}, {8, 2, 3}};
        for (int[] c : others) {
            due.is("of 9 by 3: " + c[0] + " " + c[1], wide.cell(c[0], c[1], 7), c[2]);
        }
    }

    @Edge(promise = 10, words = QUARTERS)
    static void quartersOfAnEvenNumber(Due due) {
        HillStrokes h = Due.laid("g48;");
        int[][] cells = {{1, 3, 0}, {2, 3, 1}, {1, 4, 2}, {2, 4, 3}, {0, 0, 0}, {3, 0, 1}, {0, 7, 2}, {3, 7, 3}};
        for (int[] c : cells) {
            due.is("of 4 by 8: " + c[0] + " " + c[1], h.cell(c[0], c[1], 7), c[2]);
        }
    }

    @Edge(promise = {7, 10}, words = "LIGHT of a QUARTER is the DIRECTION from which it comes.")
    static void theSideTowardsTheLightIsLight(Due due) {
        // It rises to the right, so that the light from the left is on it.
        HillStrokes h = Due.laid("g43;r0123;r0123;r0123;l6266;");
        due.is("from the left", h.cell(0, 0, 8), 101);
        due.is("from the right", h.cell(2, 0, 8), 98);
        due.is("another quarter has its own", h.cell(2, 1, 8), 102);
        h.light(1, 6);
        due.is("told anew", h.cell(2, 0, 8), 102);
    }

    @Edge(promise = 10, words = TONE)
    static void tonesByEachDirection(Due due) {
        // In the middle EAST is 2 and SOUTH is 6.
        HillStrokes h = Due.laid("g33;r012;r345;r678;l0000;");
        int[] tones = {106, 104, 98, 92, 94, 96, 102, 108};
        for (int d = 0; d < 8; d++) {
            h.light(3, d);
            due.is("tone by " + d, h.cell(1, 1, 8), tones[d]);
        }
    }

    @Edge(promise = 10, words = TONE)
    static void theGreatestAndTheLeastTone(Due due) {
        HillStrokes h = ring(5, 5, beside(0, 9), beside(6, 9), beside(2, 0), beside(4, 0));
        due.is("away from the light", h.cell(1, 1, 8), 82);
        h.light(3, 3);
        due.is("towards the light", h.cell(1, 1, 8), 118);
    }

    /** The middle is 5 and a ridge (4) or a river (6) by those above and below; the light is from the left. */
    private static int toneOfMiddle(int aboveAndBelow, int left, int right) {
        HillStrokes h = ring(5, 5, beside(0, aboveAndBelow), beside(4, aboveAndBelow), beside(6, left), beside(2, right));
        h.light(3, 6);
        return h.cell(1, 1, 8);
    }

    @Edge(promise = 10, words = "of a RIDGE 4 at least;")
    static void tonesOfRidgesAbout4(Due due) {
        due.is("3", toneOfMiddle(4, 5, 8), 104);
        due.is("4", toneOfMiddle(4, 5, 9), 104);
        due.is("5", toneOfMiddle(4, 4, 9), 105);
        due.is("-9", toneOfMiddle(4, 9, 0), 104);
        due.is("9", toneOfMiddle(4, 0, 9), 109);
    }

    @Edge(promise = 10, words = "then of a RIVER -4 at most.")
    static void tonesOfRiversAboutMinus4(Due due) {
        due.is("-3", toneOfMiddle(6, 8, 5), 96);
        due.is("-4", toneOfMiddle(6, 9, 5), 96);
        due.is("-5", toneOfMiddle(6, 9, 4), 95);
        due.is("9", toneOfMiddle(6, 0, 9), 96);
        due.is("-9", toneOfMiddle(6, 9, 0), 91);
    }

    @Edge(promise = 10, words = "then of a RIVER -4 at most.")
    static void aRiverThatIsARidgeIsARiverLast(Due due) {
        HillStrokes h = ring(5, 5, beside(0, 4), beside(4, 4), beside(1, 6), beside(5, 6), beside(6, 9), beside(2, 0));
        h.light(3, 2);
        due.is("9 falls to -4", h.cell(1, 1, 8), 96);
        h.light(3, 6);
        due.is("-9 rises to 4, then falls to -4", h.cell(1, 1, 8), 96);
    }

    @Edge(promise = {10, 16}, words = "(TONES are told 100 more.)")
    static void aToneOf0Is100(Due due) {
        HillStrokes h = Due.laid("g33;");
        due.is("tone", h.cell(1, 1, 8), 100);
        due.is("mark", h.shade(0), 100);
        due.is("ZERO", HillStrokes.ZERO, 100);
    }

    // ---- contrasts

    @Edge(promise = 13, words = CONTRAST)
    static void contrastOfOneCell(Due due) {
        HillStrokes h = Due.laid("g33;r909;r090;r909;");
        for (int d = 0; d < 8; d++) {
            due.is("by " + d, h.contrast(0, d), 0);
        }
    }

    @Edge(promise = 13, words = CONTRAST)
    static void contrastOfLikeTones(Due due) {
        HillStrokes h = Grounds.even(9, 9, 9);
        for (int q = 0; q < 4; q++) {
            due.is("of " + q, h.contrast(q, q), 0);
        }
    }

    @Edge(promise = 13, words = CONTRAST)
    static void theGreatestContrast(Due due) {
        HillStrokes h = Due.laid("g99;" + Grounds.rows(4, "555555555")
            + "r555559555;r555595055;r555550505;r555555059;r555555595;");
        due.is("the tone of 5 5 by 3 is 18, of 7 7 is -18", h.contrast(3, 3), 36);
        due.is("and by 7", h.contrast(3, 7), 36);
        due.is("of another quarter", h.contrast(0, 3), 0);
    }

    @Edge(promise = 13, words = CONTRAST)
    static void theLightThatIsToldIsNoMatter(Due due) {
        HillStrokes h = Due.laid("g44;r4106;r6013;r6555;r5220;");
        int before = h.contrast(3, 2);
        due.is("light", h.light(3, 2), 7);
        due.is("contrast", h.contrast(3, 2), before);
    }

    // ---- the best lights

    /** All contrasts together by those lights. */
    private static int together(HillStrokes h, int... lights) {
        int sum = 0;
        for (int q = 0; q < 4; q++) {
            sum += h.contrast(q, lights[q]);
        }
        return sum;
    }

    private static void best(Due due, HillStrokes h, int sum, int... lights) {
        due.is("together", h.best(-1), sum);
        due.is("by the contrasts", together(h, lights), sum);
        for (int q = 0; q < 4; q++) {
            due.is("light " + q, h.best(q), lights[q]);
        }
    }

    @Edge(promise = 14, words = APART)
    static void twoApartIn0And1(Due due) {
        HillStrokes h = Due.laid("g44;r2120;r1232;r3320;r1121;");
        best(due, h, 28, 6, 5, 7, 6);
        due.is("7 and 5 were better", together(h, 7, 5, 7, 6), 30);
    }

    @Edge(promise = 14, words = APART)
    static void twoApartIn2And3(Due due) {
        HillStrokes h = Due.laid("g44;r0144;r0111;r4351;r1410;");
        best(due, h, 36, 5, 5, 5, 6);
        due.is("5 and 7 were better", together(h, 5, 6, 5, 7), 37);
    }

    @Edge(promise = 14, words = APART)
    static void twoApartIn0And2(Due due) {
        HillStrokes h = Due.laid("g44;r0001;r1000;r1110;r0221;");
        best(due, h, 15, 4, 5, 3, 4);
        due.is("5 and 3 were better", together(h, 5, 5, 3, 4), 16);
    }

    @Edge(promise = 14, words = APART)
    static void twoApartIn1And3(Due due) {
        HillStrokes h = Due.laid("g44;r0144;r0111;r4351;r1410;");
        best(due, h, 36, 5, 5, 5, 6);
        due.is("5 and 7 were better", together(h, 5, 5, 6, 7), 38);
    }

    @Edge(promise = 14, words = ROUND)
    static void roundFrom0To7In0And1(Due due) {
        best(due, Due.laid("g44;r3301;r4245;r0562;r0211;"), 43, 0, 7, 1, 0);
    }

    @Edge(promise = 14, words = ROUND)
    static void roundFrom0To7In2And3(Due due) {
        best(due, Due.laid("g44;r5601;r2562;r2420;r3146;"), 40, 1, 0, 0, 7);
    }

    @Edge(promise = 14, words = ROUND)
    static void roundFrom7To0In0And2(Due due) {
        best(due, Due.laid("g44;r2622;r5250;r3510;r5756;"), 43, 7, 7, 0, 7);
    }

    @Edge(promise = 14, words = ROUND)
    static void roundFrom0To7In1And3(Due due) {
        HillStrokes h = Due.laid("g44;r5601;r2562;r2420;r3146;");
        best(due, h, 40, 1, 0, 0, 7);
        due.is("7 in 1, too, is less", together(h, 0, 7, 0, 7), 37);
    }

    @Edge(promise = 14, words = FIRST)
    static void allLike(Due due) {
        best(due, Due.laid("g99;"), 0, 0, 0, 0, 0);
    }

    @Edge(promise = 14, words = FIRST)
    static void thatOf0IsAheadOfThatOf1(Due due) {
        HillStrokes h = Due.laid("g44;r0011;r1010;r1010;r0011;");
        best(due, h, 21, 0, 7, 7, 6);
        due.is("as great, with a lower one of 1", together(h, 1, 0, 2, 1), 21);
    }

    @Edge(promise = 14, words = FIRST)
    static void thatOf1IsAheadOfThatOf2(Due due) {
        HillStrokes h = Due.laid("g44;r1110;r0101;r1011;r1100;");
        best(due, h, 25, 0, 1, 1, 0);
        due.is("as great, with a lower one of 2", together(h, 0, 7, 0, 7), 25);
    }

    @Edge(promise = 14, words = FIRST)
    static void thatOf2IsAheadOfThatOf3(Due due) {
        HillStrokes h = Due.laid("g44;r6210;r1711;r4272;r4451;");
        best(due, h, 40, 1, 0, 0, 7);
        due.is("as great, with a lower one of 3", together(h, 1, 0, 1, 0), 40);
    }

    @Edge(promise = {14, 15}, words = FIRST)
    static void theFirstAreTold(Due due) {
        HillStrokes h = Due.laid("g99;l1234;");
        due.is("turn", h.turn(), 4);
        for (int q = 0; q < 4; q++) {
            due.is("light " + q, h.light(q, 0), NO);
        }
    }
}
