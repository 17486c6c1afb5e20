/** Promises 13 to 18: contrast, best, turn, shade, error, level. */
final class LightAndShadeTest {
    private static final int BAD = HillStrokes.BAD, NO = HillStrokes.NO, NONE = HillStrokes.NONE;
    /** EAST is 1 2 1 in each row, SOUTH is 3 6 3 in each column; no ridge, no river. */
    private static final String PLANE = "g33;r012;r345;r678;";

    private static final Due due = new Due();

    public static void main(String[] args) {
        contrasts();
        contrastsOfRidgesAndRivers();
        bestOfThePlane();
        bestTurnsLittle();
        turning();
        shadesOfThePlane();
        shadesOfEqualError();
        shadesOfTheFlat();
        badShades();
        levels();
        levelsByHeight();
        due.end();
    }

    private static void contrasts() {
        HillStrokes h = Due.laid(PLANE + "l1234;");
        int[][] by = {{0, 0, 0, 0, 0, 0, 0, 0}, {0, 1, 1, 1, 0, 1, 1, 1}, {3, 3, 0, 3, 3, 3, 0, 3},
            {3, 4, 1, 4, 3, 4, 1, 4}};
        for (int q = 0; q < 4; q++) {
            for (int d = 0; d < 8; d++) {
                due.is("contrast " + q + " " + d, h.contrast(q, d), by[q][d]);
            }
        }
        int[][] bad = {{-1, 0}, {4, 0}, {0, -1}, {0, 8}, {Integer.MIN_VALUE, 0}, {0, Integer.MAX_VALUE}};
        for (int[] c : bad) {
            due.is("contrast " + c[0] + " " + c[1], h.contrast(c[0], c[1]), BAD);
        }
    }

    private static void contrastsOfRidgesAndRivers() {
        // The peak is a ridge (4); by a light from above those beside it have the tones 0, -9, 0.
        HillStrokes peak = Due.laid("g33;r000;r090;r000;");
        due.is("a ridge counts as light", peak.contrast(3, 0), 13);
        // The hole is a river (-4); the one below it has the tone 9.
        HillStrokes hole = Due.laid("g33;r999;r909;r999;");
        due.is("a river counts as dark", hole.contrast(3, 0), 13);
        due.is("the light told is no matter", hole.light(3, 4), 7);
        due.is("a river counts as dark, as ahead", hole.contrast(3, 0), 13);
    }

    private static void bestOfThePlane() {
        HillStrokes h = Due.laid(PLANE);
        due.is("best together", h.best(-1), 8);
        int[] lights = {0, 1, 0, 1};
        for (int q = 0; q < 4; q++) {
            due.is("best " + q, h.best(q), lights[q]);
        }
        due.is("best -2", h.best(-2), BAD);
        due.is("best 4", h.best(4), BAD);
        due.is("best least", h.best(Integer.MIN_VALUE), BAD);
        due.is("best greatest", h.best(Integer.MAX_VALUE), BAD);
        due.is("best tells nothing anew", h.light(0, 7), NO);
        due.is("best is no change", h.count(8), 0);
    }

    /** Each of the four pairs is looked at, and 7 and 0 are one apart. */
    private static void bestTurnsLittle() {
        int round = 0;
        String[] texts = {"g77;r0012100;r0135310;r1258521;r1369631;r0257520;r0134310;r0011100;",
            "g66;r909000;r000000;r909000;r000123;r000246;r000369;",
            "g66;r012000;r024000;r036999;r000000;r900999;r990000;",
            "g88;r99990000;r00009999;r12344321;r00009090;r98765432;r12121212;r00500500;r33333333;",
            "g55;r90000;r09000;r00900;r00090;r00009;", "g55;r00009;r00090;r00900;r09000;r90000;",
            "g47;r0505;r5050;r0505;r1234;r4321;r0009;r9000;"};
        for (String text : texts) {
            HillStrokes h = Due.laid(text);
            int[] l = {h.best(0), h.best(1), h.best(2), h.best(3)};
            int[][] pairs = {{0, 1}, {2, 3}, {0, 2}, {1, 3}};
            for (int[] p : pairs) {
                int apart = Math.abs(l[p[0]] - l[p[1]]);
                due.holds(text + " is turned far", Math.min(apart, 8 - apart) <= 1);
                round += apart == 7 ? 1 : 0;
            }
            due.is(text + " together", h.best(-1),
                h.contrast(0, l[0]) + h.contrast(1, l[1]) + h.contrast(2, l[2]) + h.contrast(3, l[3]));
            firstOfTheBest(text, h, l);
        }
        due.holds("no text of these turns from 7 to 0", round > 0);
    }

    private static void firstOfTheBest(String text, HillStrokes h, int[] best) {
        int[][] contrast = new int[4][8];
        for (int i = 0; i < 32; i++) {
            contrast[i / 8][i % 8] = h.contrast(i / 8, i % 8);
        }
        int greatest = -1;
        int first = -1;
        for (int all = 0; all < 4096; all++) {
            int a = all / 512, b = all / 64 % 8, c = all / 8 % 8, d = all % 8;
            if (!near(a, b) || !near(c, d) || !near(a, c) || !near(b, d)) {
                continue;
            }
            int sum = contrast[0][a] + contrast[1][b] + contrast[2][c] + contrast[3][d];
            if (sum > greatest) {
                greatest = sum;
                first = all;
            }
        }
        due.is(text + " greatest", h.best(-1), greatest);
        due.is(text + " first", best[0] * 512 + best[1] * 64 + best[2] * 8 + best[3], first);
    }

    private static boolean near(int a, int b) {
        return a == b || (a + 1) % 8 == b || (b + 1) % 8 == a;
    }

    private static void turning() {
        HillStrokes h = Due.laid(PLANE + "l0717;");
        due.is("turn", h.turn(), 3);
        int[] lights = {0, 1, 0, 1};
        for (int q = 0; q < 4; q++) {
            due.is("turned " + q, h.light(q, lights[q]), NO);
        }
        due.is("turn again", h.turn(), 0);
        due.is("both are changes", h.count(8), 2);
        h.undo();
        h.undo();
        int[] before = {0, 7, 1, 7};
        for (int q = 0; q < 4; q++) {
            due.is("turned back " + q, h.light(q, before[q]), NO);
        }
    }

    private static void shadesOfThePlane() {
        // Tones: four of 4, two of 5, two of 7, one of 8.
        HillStrokes h = Due.laid(PLANE + "l7777;");
        int[] errors = {3, 1, 0, 0, 0};
        int[][] marks = {{104, 107}, {104, 105, 107}, {104, 105, 107, 108}, {104, 105, 107, 108}, {104, 105, 107, 108}};
        for (int n = 2; n <= 6; n++) {
            due.is("error " + n, h.error(n), errors[n - 2]);
        }
        for (int n = 2; n <= 6; n++) {
            h.shades(n);
            int groups = marks[n - 2].length;
            due.is("error of " + n, h.shade(-2), errors[n - 2]);
            due.is("groups of " + n, h.shade(-1), groups);
            for (int k = 0; k < 8; k++) {
                due.is("mark " + k + " of " + n, h.shade(k), k < groups ? marks[n - 2][k] : NONE);
            }
            due.is("error of 3, whatever is told", h.error(3), 1);
        }
    }

    private static void shadesOfEqualError() {
        // Tones: six each of -2, -1 and 0; -1 can go with either for an error of 6.
        HillStrokes h = Due.laid("g63;r012333;r012333;r012333;l2222;s2;");
        due.is("error", h.shade(-2), 6);
        due.is("groups", h.shade(-1), 2);
        due.is("the first mark", h.shade(0), 98);
        due.is("the second, the lower middle", h.shade(1), 99);
        int[] shades = {1, 0, 0, 1, 1, 1};
        for (int x = 0; x < 6; x++) {
            due.is("shade " + x, h.cell(x, 1, 9), shades[x]);
        }
        h.shades(3);
        due.is("no error", h.shade(-2), 0);
        due.is("the third mark", h.shade(2), 100);
    }

    private static void shadesOfTheFlat() {
        HillStrokes h = Due.laid("g33;");
        for (int n = 2; n <= 6; n++) {
            h.shades(n);
            due.is("one group", h.shade(-1), 1);
            due.is("its mark", h.shade(0), 100);
            due.is("no second", h.shade(1), NONE);
            due.is("no error", h.error(n), 0);
            due.is("shade 0", h.cell(1, 1, 9), 0);
        }
    }

    private static void badShades() {
        HillStrokes h = new HillStrokes();
        due.is("shade -3", h.shade(-3), BAD);
        due.is("shade least", h.shade(Integer.MIN_VALUE), BAD);
        due.is("shade greatest", h.shade(Integer.MAX_VALUE), NONE);
        int[] bad = {1, 7, 0, -1, Integer.MIN_VALUE, Integer.MAX_VALUE};
        for (int n : bad) {
            due.is("error " + n, h.error(n), BAD);
        }
        due.is("asking is no change", h.count(8), 0);
    }

    private static void levels() {
        HillStrokes h = Due.laid("g43;r9090;r9009;r0990;");
        for (int v = 1; v <= 9; v++) {
            due.is("hills " + v, h.level(v, 0), 4);
            due.is("line " + v, h.level(v, 1), 13);
            due.is("cells " + v, h.level(v, 2), 6);
        }
        int[][] bad = {{0, 0}, {10, 0}, {1, -1}, {1, 3}, {Integer.MIN_VALUE, 0}, {1, Integer.MAX_VALUE}, {-1, 1}};
        for (int[] c : bad) {
            due.is("level " + c[0] + " " + c[1], h.level(c[0], c[1]), BAD);
        }
        HillStrokes whole = Due.laid("g99;" + "r999999999;".repeat(9));
        due.is("one hill of all", whole.level(9, 0), 1);
        due.is("no line at the edge", whole.level(9, 1), 0);
        due.is("all cells", whole.level(9, 2), 81);
        HillStrokes board = Due.laid("g99;" + "r909090909;r090909090;".repeat(4) + "r909090909;");
        due.is("hills of a board", board.level(1, 0), 41);
        due.is("line of a board", board.level(1, 1), 144);
        HillStrokes snake = Due.laid("g55;r99999;r00009;r99999;r90000;r99999;");
        due.is("one hill that winds", snake.level(5, 0), 1);
        due.is("its line", snake.level(5, 1), 18);
    }

    private static void levelsByHeight() {
        HillStrokes h = Due.laid("g33;r123;r456;r789;");
        for (int v = 1; v <= 9; v++) {
            due.is("v or more " + v, h.level(v, 2), 10 - v);
            due.is("one piece " + v, h.level(v, 0), 1);
        }
        int[] lines = {0, 2, 3, 3, 4, 4, 3, 3, 2};
        for (int v = 1; v <= 9; v++) {
            due.is("line " + v, h.level(v, 1), lines[v - 1]);
        }
        due.is("none at 1", Due.laid("g33;").level(1, 0), 0);
        due.is("no line at 1", Due.laid("g33;").level(1, 1), 0);
        due.is("no cells at 1", Due.laid("g33;").level(1, 2), 0);
    }
}
