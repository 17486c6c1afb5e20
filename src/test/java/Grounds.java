import java.util.Arrays;

/** Grounds that several tests lay. */
final class Grounds {
    private static final int[] RIGHT = {0, 1, 1, 1, 0, -1, -1, -1};
    private static final int[] LOWER = {-1, -1, 0, 1, 1, 1, 0, -1};

    /** So many rows that are all like. */
    static String rows(int many, String figures) {
        return ("r" + figures + ";").repeat(many);
    }

    /** A ground of one height. */
    static HillStrokes even(int columns, int rows, int height) {
        return Due.laid("g" + columns + rows + ";" + rows(rows, ("" + height).repeat(columns)));
    }

    /** A ground of 3 by 3 whose middle is told, the others all like, but for changes {x, y, height}. */
    static HillStrokes ring(int middle, int others, int[]... changes) {
        int[][] heights = new int[3][3];
        for (int[] row : heights) {
            Arrays.fill(row, others);
        }
        heights[1][1] = middle;
        for (int[] c : changes) {
            heights[c[1]][c[0]] = c[2];
        }
        StringBuilder text = new StringBuilder("g33;");
        for (int[] row : heights) {
            text.append('r').append(row[0]).append(row[1]).append(row[2]).append(';');
        }
        return Due.laid(text.toString());
    }

    /** A change of a ring: that of the cell beside the middle in a direction. */
    static int[] beside(int d, int height) {
        return new int[] {1 + RIGHT[d], 1 + LOWER[d], height};
    }

    /** Falls to the right by one a column; the last column is pits. */
    static HillStrokes slope(int rows) {
        return Due.laid("g9" + rows + ";" + rows(rows, "987654321"));
    }
}
