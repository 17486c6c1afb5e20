/**
 * Hills drawn by hand: a ground of heights, its light and shades, and the
 * strokes drawn down it.
 *
 * Inside, a cell (x, y) is the one number 9 y + x, as the document tells cells.
 * All rows are made with the object and used again: no call makes anything.
 */
public final class HillStrokes {
    public static final int BAD = -1, NO = -2, FULL = -3, NONE = -4, ZERO = 100;

    private static final int SIDE = 9;
    private static final int CELLS = SIDE * SIDE;
    private static final int DIRECTIONS = 8;
    private static final int QUARTERS = 4;
    private static final int HIGHEST = 9;
    private static final int FEWEST_SHADES = 2;
    private static final int MOST_SHADES = 6;
    private static final int MOST_LETTERS = 200;
    private static final int MOST_STROKES = 20;
    private static final int MOST_STROKE_CELLS = 6;
    private static final int MOST_UNDONE = 6;
    private static final int NOWHERE = -1;
    private static final int RIDGE = 0;
    private static final int RIVER = 1;
    private static final int PIT = 2;
    private static final int GREATEST_TONE = 18;

    private static final int[] STEP_RIGHT = {0, 1, 1, 1, 0, -1, -1, -1};
    private static final int[] STEP_DOWN = {-1, -1, 0, 1, 1, 1, 0, -1};

    private static final String FIRST_TEXT =
        "g77;r0012100;r0135310;r1258521;r1369631;r0257520;r0134310;r0011100;l7007;s4;";

    private final Picture now;
    private final Picture spare;
    private final Past past;
    private final Script script;
    private final Lamps lamps;
    private final Shading shading;
    private final Levels levels;

    public HillStrokes() {
        now = new Picture();
        spare = new Picture();
        past = new Past();
        script = new Script();
        lamps = new Lamps();
        shading = new Shading();
        levels = new Levels();
        script.addAll(FIRST_TEXT);
        script.readInto(now);
        script.clear();
    }

    // ---- told

    public int write(int letter) {
        if (letter < 32 || letter > 126) {
            return BAD;
        }
        if (script.length >= MOST_LETTERS) {
            return FULL;
        }
        script.add(letter);
        return script.length;
    }

    public int wipe() {
        int length = script.length;
        script.clear();
        return length;
    }

    public int fault() {
        return script.readInto(spare);
    }

    public int lay() {
        boolean faulty = script.readInto(spare) != NONE;
        if (faulty || !spare.ground.isTold()) {
            return NO;
        }
        now.copyFrom(spare);
        past.forget();
        return now.ground.columns * now.ground.rows;
    }

    public int raise(int x, int y, int v) {
        if (!now.ground.has(x, y) || v < 0 || v > HIGHEST) {
            return BAD;
        }
        int cell = number(x, y);
        int before = now.ground.height(cell);
        if (before == v) {
            return NO;
        }
        past.keep(now);
        now.ground.setHeight(cell, v);
        now.sheet.removeNear(cell);
        return before;
    }

    public int light(int q, int d) {
        if (!isQuarter(q) || !isDirection(d)) {
            return BAD;
        }
        int before = now.lights[q];
        if (before == d) {
            return NO;
        }
        past.keep(now);
        now.lights[q] = d;
        return before;
    }

    public int shades(int n) {
        if (!isShadeNumber(n)) {
            return BAD;
        }
        int before = now.shadesTold;
        if (before == n) {
            return NO;
        }
        past.keep(now);
        now.shadesTold = n;
        return before;
    }

    public int undo() {
        if (past.size == 0) {
            return NO;
        }
        past.bringBack(now);
        return past.size;
    }

    // ---- slopes

    public int cell(int x, int y, int what) {
        Ground ground = now.ground;
        if (!ground.has(x, y)) {
            return BAD;
        }
        int cell = number(x, y);
        switch (what) {
            case 0: return ground.height(cell);
            case 1: return ground.east(cell) + ZERO;
            case 2: return ground.south(cell) + ZERO;
            case 3: return ground.steep(cell);
            case 4: return orNone(ground.downFrom(cell));
            case 5: return ground.isRidge(cell) ? 1 : 0;
            case 6: return ground.isRiver(cell) ? 1 : 0;
            case 7: return ground.quarter(cell);
            case 8: return now.tone(cell) + ZERO;
            case 9:
                shading.weigh(now);
                shading.cutInto(now.shadesTold);
                return shading.groupOf(now.tone(cell));
            default: return BAD;
        }
    }

    public int flow(int x, int y, int what) {
        if (!now.ground.has(x, y) || what < 0 || what > 1) {
            return BAD;
        }
        int cell = number(x, y);
        return what == 0 ? now.ground.pitOf(cell) : now.ground.stepsToPit(cell);
    }

    public int basin(int x, int y) {
        if (!now.ground.has(x, y)) {
            return BAD;
        }
        return now.ground.cellsFlowingTo(number(x, y));
    }

    // ---- light and shade

    public int contrast(int q, int d) {
        if (!isQuarter(q) || !isDirection(d)) {
            return BAD;
        }
        return now.ground.contrastOf(q, d);
    }

    public int best(int q) {
        if (q != -1 && !isQuarter(q)) {
            return BAD;
        }
        lamps.seekBest(now.ground);
        return q == -1 ? lamps.bestSum : lamps.bestLights[q];
    }

    public int turn() {
        lamps.seekBest(now.ground);
        past.keep(now);
        int turned = 0;
        for (int q = 0; q < QUARTERS; q++) {
            if (now.lights[q] != lamps.bestLights[q]) {
                turned++;
            }
            now.lights[q] = lamps.bestLights[q];
        }
        return turned;
    }

    public int shade(int k) {
        if (k < -2) {
            return BAD;
        }
        shading.weigh(now);
        if (k == -2) {
            return shading.leastError(now.shadesTold);
        }
        shading.cutInto(now.shadesTold);
        if (k == -1) {
            return shading.groups;
        }
        return k < shading.groups ? shading.mark(k) + ZERO : NONE;
    }

    public int error(int n) {
        if (!isShadeNumber(n)) {
            return BAD;
        }
        shading.weigh(now);
        return shading.leastError(n);
    }

    public int level(int v, int what) {
        if (v < 1 || v > HIGHEST) {
            return BAD;
        }
        switch (what) {
            case 0: return levels.hills(now.ground, v);
            case 1: return levels.lineLength(now.ground, v);
            case 2: return levels.cellsUp(now.ground, v);
            default: return BAD;
        }
    }

    // ---- strokes

    public int why(int x, int y) {
        if (!now.ground.has(x, y)) {
            return BAD;
        }
        return now.hindrance(number(x, y));
    }

    public int draw(int x, int y) {
        if (!now.ground.has(x, y)) {
            return BAD;
        }
        int cell = number(x, y);
        if (now.hindrance(cell) != 0) {
            return NO;
        }
        if (now.sheet.size >= MOST_STROKES) {
            return FULL;
        }
        past.keep(now);
        now.sheet.add(now.ground, cell);
        return now.sheet.size - 1;
    }

    public int rub(int s) {
        if (!now.sheet.has(s)) {
            return BAD;
        }
        past.keep(now);
        now.sheet.remove(s);
        return now.sheet.size;
    }

    public int hatch() {
        past.keep(now);
        int before = now.sheet.size;
        for (int i = before; i < MOST_STROKES; i++) {
            int cell = now.steepestBeginning();
            if (cell == NOWHERE) {
                break;
            }
            now.sheet.add(now.ground, cell);
        }
        return now.sheet.size - before;
    }

    public int stroke(int s, int k) {
        Sheet sheet = now.sheet;
        if (!sheet.has(s) || k < -3) {
            return BAD;
        }
        int length = sheet.lengths[s];
        if (k == -1) {
            return length;
        }
        if (k == -2) {
            return sheet.ends[s];
        }
        if (k == -3) {
            return now.ground.height(sheet.cellAt(s, 0)) - now.ground.height(sheet.cellAt(s, length - 1));
        }
        return orNone(sheet.cellAt(s, k));
    }

    public int whose(int x, int y) {
        if (!now.ground.has(x, y)) {
            return BAD;
        }
        return orNone(now.sheet.ownerOf(number(x, y)));
    }

    public int count(int what) {
        switch (what) {
            case 0: return now.ground.columns;
            case 1: return now.ground.rows;
            case 2: return now.shadesTold;
            case 3: return now.sheet.size;
            case 4: return now.sheet.cellsInAll();
            case 5: return now.ground.cellsOfKind(RIDGE);
            case 6: return now.ground.cellsOfKind(RIVER);
            case 7: return now.ground.cellsOfKind(PIT);
            case 8: return past.size;
            case 9: return script.length;
            case 10: return now.ground.heightsTogether();
            default: return BAD;
        }
    }

    private static int number(int x, int y) {
        return SIDE * y + x;
    }

    private static int orNone(int found) {
        return found == NOWHERE ? NONE : found;
    }

    private static boolean isQuarter(int q) {
        return q >= 0 && q < QUARTERS;
    }

    private static boolean isDirection(int d) {
        return d >= 0 && d < DIRECTIONS;
    }

    private static boolean isShadeNumber(int n) {
        return n >= FEWEST_SHADES && n <= MOST_SHADES;
    }

    /** The heights, and what they alone say: slopes, ways down, tones by a light. */
    private static final class Ground {
        int columns;
        int rows;
        final int[] heights = new int[CELLS];

        void copyFrom(Ground other) {
            columns = other.columns;
            rows = other.rows;
            System.arraycopy(other.heights, 0, heights, 0, CELLS);
        }

        void clear() {
            columns = 0;
            rows = 0;
            for (int i = 0; i < CELLS; i++) {
                heights[i] = 0;
            }
        }

        boolean isTold() {
            return columns > 0;
        }

        boolean has(int x, int y) {
            return x >= 0 && x < columns && y >= 0 && y < rows;
        }

        boolean hasNumber(int cell) {
            return cell >= 0 && has(cell % SIDE, cell / SIDE);
        }

        int height(int cell) {
            return cell >= 0 && cell < CELLS ? heights[cell] : 0;
        }

        void setHeight(int cell, int v) {
            if (cell >= 0 && cell < CELLS) {
                heights[cell] = v;
            }
        }

        int beside(int cell, int d) {
            int x = cell % SIDE + STEP_RIGHT[d & 7];
            int y = cell / SIDE + STEP_DOWN[d & 7];
            boolean there = x >= 0 && x < columns && y >= 0 && y < rows;
            return there ? SIDE * y + x : NOWHERE;
        }

        private int heightBesideOrOwn(int cell, int d) {
            int other = beside(cell, d);
            return height(other == NOWHERE ? cell : other);
        }

        int east(int cell) {
            return heightBesideOrOwn(cell, 2) - heightBesideOrOwn(cell, 6);
        }

        int south(int cell) {
            return heightBesideOrOwn(cell, 4) - heightBesideOrOwn(cell, 0);
        }

        int steep(int cell) {
            return Math.abs(east(cell)) + Math.abs(south(cell));
        }

        int downFrom(int cell) {
            int down = NOWHERE;
            int greatest = 0;
            for (int d = 0; d < DIRECTIONS; d++) {
                int weight = d % 2 == 0 ? 3 : 2;
                int fall = (height(cell) - heightBesideOrOwn(cell, d)) * weight;
                if (fall > greatest) {
                    greatest = fall;
                    down = d;
                }
            }
            return down;
        }

        int nextDown(int cell) {
            int down = downFrom(cell);
            return down == NOWHERE ? NOWHERE : beside(cell, down);
        }

        boolean isRidge(int cell) {
            return isBeyondBoth(cell, 1);
        }

        boolean isRiver(int cell) {
            return isBeyondBoth(cell, -1);
        }

        /** Whether it is higher (sign 1) or lower (sign -1) than two opposite ones. */
        private boolean isBeyondBoth(int cell, int sign) {
            int own = sign * height(cell);
            for (int d = 0; d < DIRECTIONS / 2; d++) {
                int one = beside(cell, d);
                int other = beside(cell, d + DIRECTIONS / 2);
                if (one != NOWHERE && other != NOWHERE
                        && own > sign * height(one) && own > sign * height(other)) {
                    return true;
                }
            }
            return false;
        }

        int pitOf(int cell) {
            int at = cell;
            for (int i = 0; i < CELLS; i++) {
                int next = nextDown(at);
                if (next == NOWHERE) {
                    break;
                }
                at = next;
            }
            return at;
        }

        int stepsToPit(int cell) {
            int at = cell;
            int steps = 0;
            for (int i = 0; i < CELLS; i++) {
                at = nextDown(at);
                if (at == NOWHERE) {
                    break;
                }
                steps++;
            }
            return steps;
        }

        int cellsFlowingTo(int pit) {
            int sum = 0;
            for (int cell = 0; cell < CELLS; cell++) {
                if (hasNumber(cell) && pitOf(cell) == pit) {
                    sum++;
                }
            }
            return sum;
        }

        int quarter(int cell) {
            int right = cell % SIDE < columns / 2 ? 0 : 1;
            int low = cell / SIDE < rows / 2 ? 0 : 2;
            return low + right;
        }

        int toneBy(int cell, int d) {
            int tone = -(STEP_RIGHT[d & 7] * east(cell) + STEP_DOWN[d & 7] * south(cell));
            if (isRidge(cell)) {
                tone = Math.max(tone, 4);
            }
            // Last, for a cell that is both is kept dark.
            if (isRiver(cell)) {
                tone = Math.min(tone, -4);
            }
            return tone;
        }

        int contrastOf(int q, int d) {
            int least = GREATEST_TONE;
            int greatest = -GREATEST_TONE;
            for (int cell = 0; cell < CELLS; cell++) {
                if (hasNumber(cell) && quarter(cell) == q) {
                    int tone = toneBy(cell, d);
                    least = Math.min(least, tone);
                    greatest = Math.max(greatest, tone);
                }
            }
            return greatest - least;
        }

        int cellsOfKind(int kind) {
            int sum = 0;
            for (int cell = 0; cell < CELLS; cell++) {
                if (hasNumber(cell) && isOfKind(cell, kind)) {
                    sum++;
                }
            }
            return sum;
        }

        private boolean isOfKind(int cell, int kind) {
            switch (kind) {
                case RIDGE: return isRidge(cell);
                case RIVER: return isRiver(cell);
                default: return downFrom(cell) == NOWHERE;
            }
        }

        int heightsTogether() {
            int sum = 0;
            for (int cell = 0; cell < CELLS; cell++) {
                if (hasNumber(cell)) {
                    sum += heights[cell];
                }
            }
            return sum;
        }
    }

    /** The strokes, in the order of their numbers. */
    private static final class Sheet {
        int size;
        final int[] lengths = new int[MOST_STROKES];
        final int[] ends = new int[MOST_STROKES];
        private final int[] cells = new int[MOST_STROKES * MOST_STROKE_CELLS];

        void copyFrom(Sheet other) {
            for (int s = 0; s < other.size && s < MOST_STROKES; s++) {
                copyStroke(other, s, s);
            }
            size = other.size;
        }

        private void copyStroke(Sheet other, int from, int to) {
            lengths[to] = other.lengths[from];
            ends[to] = other.ends[from];
            System.arraycopy(other.cells, from * MOST_STROKE_CELLS,
                cells, to * MOST_STROKE_CELLS, MOST_STROKE_CELLS);
        }

        void clear() {
            size = 0;
        }

        boolean has(int s) {
            return s >= 0 && s < size;
        }

        int cellAt(int s, int k) {
            if (!has(s) || k < 0 || k >= lengths[s]) {
                return NOWHERE;
            }
            return cells[s * MOST_STROKE_CELLS + k];
        }

        int ownerOf(int cell) {
            for (int s = 0; s < size; s++) {
                for (int k = 0; k < lengths[s]; k++) {
                    if (cellAt(s, k) == cell) {
                        return s;
                    }
                }
            }
            return NOWHERE;
        }

        boolean isKeptOff(int cell) {
            for (int s = 0; s < size; s++) {
                if (isNear(s, cell)) {
                    return false;
                }
            }
            return true;
        }

        /** Whether a stroke has the cell or one beside it. */
        private boolean isNear(int s, int cell) {
            for (int k = 0; k < lengths[s]; k++) {
                int own = cellAt(s, k);
                if (Math.abs(own % SIDE - cell % SIDE) <= 1 && Math.abs(own / SIDE - cell / SIDE) <= 1) {
                    return true;
                }
            }
            return false;
        }

        /** The stroke keeps off those that are counted, not off itself: it is counted last. */
        void add(Ground ground, int start) {
            if (size >= MOST_STROKES) {
                return;
            }
            int cell = start;
            int end = 0;
            int length = 0;
            while (end == 0 && length < MOST_STROKE_CELLS) {
                cells[size * MOST_STROKE_CELLS + length] = cell;
                length++;
                cell = ground.nextDown(cell);
                end = endBefore(cell, length);
            }
            lengths[size] = length;
            ends[size] = end;
            size++;
        }

        /** Why a stroke of this length ends ahead of the next cell; 0: it goes on. */
        private int endBefore(int next, int length) {
            if (next == NOWHERE) {
                return 1;
            }
            if (!isKeptOff(next)) {
                return 2;
            }
            return length == MOST_STROKE_CELLS ? 3 : 0;
        }

        void remove(int gone) {
            if (!has(gone)) {
                return;
            }
            for (int s = gone + 1; s < size && s < MOST_STROKES; s++) {
                copyStroke(this, s, s - 1);
            }
            size--;
        }

        void removeNear(int cell) {
            for (int s = size - 1; s >= 0; s--) {
                if (isNear(s, cell)) {
                    remove(s);
                }
            }
        }

        int cellsInAll() {
            int sum = 0;
            for (int s = 0; s < size; s++) {
                sum += lengths[s];
            }
            return sum;
        }
    }

    /** All that a change can change. */
    private static final class Picture {
        final Ground ground = new Ground();
        final Sheet sheet = new Sheet();
        final int[] lights = new int[QUARTERS];
        int shadesTold;

        void copyFrom(Picture other) {
            ground.copyFrom(other.ground);
            sheet.copyFrom(other.sheet);
            System.arraycopy(other.lights, 0, lights, 0, QUARTERS);
            shadesTold = other.shadesTold;
        }

        /** As it is ahead of the first item of a text. */
        void clear() {
            ground.clear();
            sheet.clear();
            for (int q = 0; q < QUARTERS; q++) {
                lights[q] = 7;
            }
            shadesTold = 4;
        }

        int tone(int cell) {
            return ground.toneBy(cell, lights[ground.quarter(cell) & 3]);
        }

        /** Why no stroke can begin in a cell; 0: one can. */
        int hindrance(int cell) {
            int next = ground.nextDown(cell);
            if (next == NOWHERE) {
                return 1;
            }
            if (ground.isRiver(cell)) {
                return 2;
            }
            if (!sheet.isKeptOff(cell)) {
                return 3;
            }
            return sheet.isKeptOff(next) ? 0 : 4;
        }

        int steepestBeginning() {
            int found = NOWHERE;
            int steepest = -1;
            for (int cell = 0; cell < CELLS; cell++) {
                if (ground.hasNumber(cell) && ground.steep(cell) > steepest && hindrance(cell) == 0) {
                    steepest = ground.steep(cell);
                    found = cell;
                }
            }
            return found;
        }
    }

    /** The pictures ahead of the latest changes, in a ring. */
    private static final class Past {
        int size;
        private int next;
        private final Picture[] kept = new Picture[MOST_UNDONE];

        Past() {
            for (int i = 0; i < MOST_UNDONE; i++) {
                kept[i] = new Picture();
            }
        }

        void keep(Picture picture) {
            kept[next].copyFrom(picture);
            next = (next + 1) % MOST_UNDONE;
            size = Math.min(size + 1, MOST_UNDONE);
        }

        void bringBack(Picture picture) {
            if (size == 0) {
                return;
            }
            next = (next + MOST_UNDONE - 1) % MOST_UNDONE;
            size--;
            picture.copyFrom(kept[next]);
        }

        void forget() {
            size = 0;
        }
    }

    /** The text, and the reading of it. */
    private static final class Script {
        int length;
        private final char[] letters = new char[MOST_LETTERS];
        private int rowsTold;

        void add(int letter) {
            if (length < MOST_LETTERS) {
                letters[length] = (char) letter;
                length++;
            }
        }

        void addAll(String text) {
            for (int i = 0; i < text.length(); i++) {
                add(text.charAt(i));
            }
        }

        void clear() {
            length = 0;
        }

        /** The place of the first item that is not so, or NONE; the items ahead of it are read. */
        int readInto(Picture picture) {
            picture.clear();
            rowsTold = 0;
            int at = 0;
            for (int i = 0; i < MOST_LETTERS && at < length; i++) {
                int figures = figuresOfItem(picture.ground, at);
                if (figures == 0) {
                    return at;
                }
                take(picture, at);
                at += figures + 2;
            }
            return NONE;
        }

        private int letter(int at) {
            return at >= 0 && at < length ? letters[at] : ' ';
        }

        private int figure(int at) {
            return letter(at) - '0';
        }

        /** How many figures the item has that begins there; 0: it is not so. */
        private int figuresOfItem(Ground ground, int at) {
            int kind = letter(at);
            // Only a g can be first, and only the first can be a g.
            if (ground.isTold() == (kind == 'g')) {
                return 0;
            }
            switch (kind) {
                case 'g': return figuresWithin(at, 2, 3, 9);
                case 'r': return rowsTold < ground.rows ? figuresWithin(at, ground.columns, 0, HIGHEST) : 0;
                case 'l': return figuresWithin(at, QUARTERS, 0, DIRECTIONS - 1);
                case 's': return figuresWithin(at, 1, FEWEST_SHADES, MOST_SHADES);
                default: return 0;
            }
        }

        /** So many, if they all are from low to high with a ; behind; 0 else. */
        private int figuresWithin(int at, int many, int low, int high) {
            for (int i = 1; i <= many; i++) {
                if (figure(at + i) < low || figure(at + i) > high) {
                    return 0;
                }
            }
            return letter(at + many + 1) == ';' ? many : 0;
        }

        private void take(Picture picture, int at) {
            switch (letter(at)) {
                case 'g':
                    picture.ground.columns = figure(at + 1);
                    picture.ground.rows = figure(at + 2);
                    break;
                case 'r':
                    for (int x = 0; x < picture.ground.columns; x++) {
                        picture.ground.setHeight(SIDE * rowsTold + x, figure(at + 1 + x));
                    }
                    rowsTold++;
                    break;
                case 'l':
                    for (int q = 0; q < QUARTERS; q++) {
                        picture.lights[q] = figure(at + 1 + q);
                    }
                    break;
                default:
                    picture.shadesTold = figure(at + 1);
                    break;
            }
        }
    }

    /** The search for the best lights. */
    private static final class Lamps {
        int bestSum;
        final int[] bestLights = new int[QUARTERS];
        private final int[] contrasts = new int[QUARTERS * DIRECTIONS];

        /** Lights are tried in the order of the document, so the first of equals stays. */
        void seekBest(Ground ground) {
            for (int q = 0; q < QUARTERS; q++) {
                for (int d = 0; d < DIRECTIONS; d++) {
                    contrasts[q * DIRECTIONS + d] = ground.contrastOf(q, d);
                }
            }
            bestSum = -1;
            for (int first = 0; first < DIRECTIONS; first++) {
                for (int second = 0; second < DIRECTIONS; second++) {
                    if (isSmallTurn(first, second)) {
                        seekLower(first, second);
                    }
                }
            }
        }

        private void seekLower(int first, int second) {
            for (int third = 0; third < DIRECTIONS; third++) {
                for (int fourth = 0; fourth < DIRECTIONS; fourth++) {
                    if (isSmallTurn(first, third) && isSmallTurn(second, fourth) && isSmallTurn(third, fourth)) {
                        keepIfBetter(first, second, third, fourth);
                    }
                }
            }
        }

        private static boolean isSmallTurn(int from, int to) {
            int apart = (to - from) & 7;
            return apart <= 1 || apart == 7;
        }

        private void keepIfBetter(int first, int second, int third, int fourth) {
            int sum = contrasts[first] + contrasts[DIRECTIONS + second]
                + contrasts[2 * DIRECTIONS + third] + contrasts[3 * DIRECTIONS + fourth];
            if (sum > bestSum) {
                bestSum = sum;
                bestLights[0] = first;
                bestLights[1] = second;
                bestLights[2] = third;
                bestLights[3] = fourth;
            }
        }
    }

    /**
     * The cut of the tones. Unlike tones stand in a row, the least first; from
     * each place on in that row the least error is sought for each number of
     * groups that may still come.
     */
    private static final class Shading {
        private static final int TONES = 2 * GREATEST_TONE + 1;
        private static final int PLACES = TONES + 1;
        private static final int NEVER = 1000000;

        int groups;
        private int unlike;
        private final int[] tally = new int[TONES];
        private final int[] tones = new int[TONES];
        /** How many cells, and the sum of their tones, ahead of each place. */
        private final int[] cellsAhead = new int[PLACES];
        private final int[] sumAhead = new int[PLACES];
        /** By groups to come and place: the least error, and where the next group then begins. */
        private final int[] least = new int[(MOST_SHADES + 1) * PLACES];
        private final int[] nextBegin = new int[(MOST_SHADES + 1) * PLACES];
        private final int[] begins = new int[MOST_SHADES + 1];

        void weigh(Picture picture) {
            tallyTones(picture);
            lineUpTones();
            for (int k = 0; k <= MOST_SHADES; k++) {
                least[k * PLACES + unlike] = k == 0 ? 0 : NEVER;
            }
            for (int from = unlike - 1; from >= 0; from--) {
                seekCutsFrom(from);
            }
        }

        private void tallyTones(Picture picture) {
            for (int i = 0; i < TONES; i++) {
                tally[i] = 0;
            }
            for (int cell = 0; cell < CELLS; cell++) {
                if (picture.ground.hasNumber(cell)) {
                    int light = picture.lights[picture.ground.quarter(cell) & 3];
                    int i = picture.ground.toneBy(cell, light) + GREATEST_TONE;
                    if (i >= 0 && i < TONES) {
                        tally[i]++;
                    }
                }
            }
        }

        private void lineUpTones() {
            unlike = 0;
            for (int i = 0; i < TONES; i++) {
                if (tally[i] > 0) {
                    int tone = i - GREATEST_TONE;
                    tones[unlike] = tone;
                    cellsAhead[unlike + 1] = cellsAhead[unlike] + tally[i];
                    sumAhead[unlike + 1] = sumAhead[unlike] + tally[i] * tone;
                    unlike++;
                }
            }
        }

        /** Ends are tried the lowest first, so of equal errors the lower beginning stays. */
        private void seekCutsFrom(int from) {
            for (int k = 0; k <= MOST_SHADES; k++) {
                least[k * PLACES + from] = NEVER;
            }
            int middle = from;
            for (int to = from + 1; to <= unlike; to++) {
                middle = middlePlace(from, to, middle);
                int own = groupError(from, to, middle);
                for (int k = 1; k <= MOST_SHADES; k++) {
                    int sum = own + least[(k - 1) * PLACES + to];
                    if (sum < least[k * PLACES + from]) {
                        least[k * PLACES + from] = sum;
                        nextBegin[k * PLACES + from] = to;
                    }
                }
            }
        }

        /** The place of the lower middle tone of a group; it is not ahead of atLeast. */
        private int middlePlace(int from, int to, int atLeast) {
            int half = (cellsAhead[to] - cellsAhead[from] + 1) / 2;
            int place = atLeast;
            while (place < to - 1 && cellsAhead[place + 1] - cellsAhead[from] < half) {
                place++;
            }
            return place;
        }

        private int groupError(int from, int to, int middle) {
            int mark = tones[middle];
            int below = mark * (cellsAhead[middle] - cellsAhead[from]) - (sumAhead[middle] - sumAhead[from]);
            int above = sumAhead[to] - sumAhead[middle] - mark * (cellsAhead[to] - cellsAhead[middle]);
            return below + above;
        }

        private int groupsFor(int n) {
            return Math.max(0, Math.min(Math.min(n, unlike), MOST_SHADES));
        }

        int leastError(int n) {
            return least[groupsFor(n) * PLACES];
        }

        void cutInto(int n) {
            groups = groupsFor(n);
            int at = 0;
            for (int g = 0; g < groups; g++) {
                begins[g] = at;
                at = nextBegin[(groups - g) * PLACES + at];
            }
            begins[groups] = at;
        }

        int mark(int g) {
            if (g < 0 || g >= groups) {
                return 0;
            }
            return tones[middlePlace(begins[g], begins[g + 1], begins[g])];
        }

        int groupOf(int tone) {
            int found = 0;
            for (int g = 0; g < groups; g++) {
                if (tones[begins[g]] <= tone) {
                    found = g;
                }
            }
            return found;
        }
    }

    /** The ground cut at a height. */
    private static final class Levels {
        private final boolean[] seen = new boolean[CELLS];
        private final int[] piece = new int[CELLS];

        private static boolean isUp(Ground ground, int cell, int v) {
            return ground.hasNumber(cell) && ground.height(cell) >= v;
        }

        int hills(Ground ground, int v) {
            for (int cell = 0; cell < CELLS; cell++) {
                seen[cell] = false;
            }
            int sum = 0;
            for (int cell = 0; cell < CELLS; cell++) {
                if (isUp(ground, cell, v) && !seen[cell]) {
                    walkPiece(ground, cell, v);
                    sum++;
                }
            }
            return sum;
        }

        private void walkPiece(Ground ground, int start, int v) {
            int found = 1;
            piece[0] = start;
            seen[start] = true;
            for (int i = 0; i < found && i < CELLS; i++) {
                for (int d = 0; d < DIRECTIONS; d += 2) {
                    int other = ground.beside(piece[i], d);
                    if (isUp(ground, other, v) && !seen[other] && found < CELLS) {
                        seen[other] = true;
                        piece[found] = other;
                        found++;
                    }
                }
            }
        }

        int lineLength(Ground ground, int v) {
            int sum = 0;
            for (int cell = 0; cell < CELLS; cell++) {
                if (isUp(ground, cell, v)) {
                    sum += lowSides(ground, cell, v);
                }
            }
            return sum;
        }

        private static int lowSides(Ground ground, int cell, int v) {
            int sum = 0;
            for (int d = 0; d < DIRECTIONS; d += 2) {
                int other = ground.beside(cell, d);
                if (other != NOWHERE && !isUp(ground, other, v)) {
                    sum++;
                }
            }
            return sum;
        }

        int cellsUp(Ground ground, int v) {
            int sum = 0;
            for (int cell = 0; cell < CELLS; cell++) {
                if (isUp(ground, cell, v)) {
                    sum++;
                }
            }
            return sum;
        }
    }
}
