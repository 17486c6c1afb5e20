import java.util.Random;

/** All promises: runs of 512 calls, the same ones each time, held against PlainHills. */
final class RandomRunsTest {
    private static final int RUNS = 400;
    private static final int CALLS = 512;
    /** As many calls as a text can take to be written and laid. */
    private static final int CALLS_OF_TEXT = 203;
    private static final int[] WILD = {Integer.MIN_VALUE, Integer.MIN_VALUE + 1, -65536, -100, -10, -5, -4, -3, -2, -1,
        7, 8, 9, 10, 11, 12, 19, 20, 21, 31, 127, 200, 65536, Integer.MAX_VALUE - 1, Integer.MAX_VALUE};

    private static final Due due = new Due();
    private static Random random;
    private static HillStrokes program;
    private static PlainHills plain;

    public static void main(String[] args) {
        for (int run = 0; run < RUNS && !due.hasWrong(); run++) {
            random = new Random(run);
            program = new HillStrokes();
            plain = new PlainHills();
            // Every second run has another ground from the beginning on.
            int calls = run % 2 == 0 ? 0 : newText("run " + run + ": ");
            while (calls < CALLS && !due.hasWrong()) {
                calls += step("run " + run + ", call " + (calls + 1) + ": ", CALLS - calls);
            }
        }
        due.end();
    }

    /** A number of the range, or now and then one that is mostly outside it. */
    private static int some(int low, int high) {
        if (random.nextInt(25) == 0) {
            return WILD[random.nextInt(WILD.length)];
        }
        return low + random.nextInt(high - low + 1);
    }

    private static int column() {
        return some(0, plain.count(0) - 1);
    }

    private static int row() {
        return some(0, plain.count(1) - 1);
    }

    /** How many calls were made, of those that are left. */
    private static int step(String at, int left) {
        int kind = random.nextInt(60);
        if (kind < 1 && left >= CALLS_OF_TEXT) {
            return newText(at);
        }
        if (kind < 20) {
            changeSomething(at, random.nextInt(16));
        } else if (kind < 36) {
            askOfTheGround(at, random.nextInt(9));
        } else {
            askOfTheStrokes(at, random.nextInt(8));
        }
        return 1;
    }

    private static int newText(String at) {
        String text = text();
        due.is(at + "wipe()", program.wipe(), plain.wipe());
        for (int i = 0; i < text.length(); i++) {
            int letter = text.charAt(i);
            due.is(at + "write(" + letter + ")", program.write(letter), plain.write(letter));
        }
        due.is(at + "fault() of " + text, program.fault(), plain.fault());
        due.is(at + "lay() of " + text, program.lay(), plain.lay());
        return text.length() + 3;
    }

    /** Mostly a text without fault, of one of several kinds of ground; now and then one letter is another. */
    private static String text() {
        int w = 3 + random.nextInt(7), h = 3 + random.nextInt(7);
        int kind = random.nextInt(4);
        StringBuilder text = new StringBuilder("g" + w + h + ";");
        int rows = random.nextInt(4) == 0 ? random.nextInt(h + 2) : h;
        for (int y = 0; y < rows; y++) {
            text.append('r');
            for (int x = 0; x < w; x++) {
                text.append(height(kind, x, y, w, h));
            }
            text.append(';');
            if (random.nextInt(10) == 0) {
                text.append('s').append(2 + random.nextInt(5)).append(';');
            }
        }
        for (int i = random.nextInt(3); i > 0; i--) {
            text.append('l');
            for (int q = 0; q < 4; q++) {
                text.append(random.nextInt(8));
            }
            text.append(';');
        }
        if (random.nextInt(3) == 0) {
            text.setCharAt(random.nextInt(text.length()), "grls;0123456789 x~".charAt(random.nextInt(18)));
        }
        if (random.nextInt(10) == 0) {
            text.setLength(random.nextInt(text.length() + 1));
        }
        return text.toString();
    }

    private static int height(int kind, int x, int y, int w, int h) {
        int noise = random.nextInt(2);
        switch (kind) {
            case 0: return random.nextInt(10);
            case 1: return random.nextInt(2) * 9;
            case 2: return Math.max(0, Math.min(9, 9 - Math.abs(2 * x - w) - Math.abs(2 * y - h) / 2 + noise));
            default: return Math.max(0, Math.min(9, 9 - x + noise));
        }
    }

    private static void changeSomething(String at, int kind) {
        int x = column(), y = row();
        int a = some(0, 9), q = some(0, 3), d = some(0, 7), n = some(2, 6), s = some(0, 3);
        switch (kind) {
            case 0: case 1: case 2:
                due.is(at + "raise(" + x + ", " + y + ", " + a + ")", program.raise(x, y, a), plain.raise(x, y, a));
                break;
            case 3: case 4:
                due.is(at + "light(" + q + ", " + d + ")", program.light(q, d), plain.light(q, d));
                break;
            case 5:
                due.is(at + "shades(" + n + ")", program.shades(n), plain.shades(n));
                break;
            case 6: case 7:
                due.is(at + "undo()", program.undo(), plain.undo());
                break;
            case 8:
                due.is(at + "turn()", program.turn(), plain.turn());
                break;
            case 9:
                due.is(at + "rub(" + s + ")", program.rub(s), plain.rub(s));
                break;
            case 10:
                due.is(at + "hatch()", program.hatch(), plain.hatch());
                break;
            case 11:
                due.is(at + "write(" + x + ")", program.write(x), plain.write(x));
                break;
            case 12:
                due.is(at + "lay()", program.lay(), plain.lay());
                break;
            default:
                due.is(at + "draw(" + x + ", " + y + ")", program.draw(x, y), plain.draw(x, y));
                break;
        }
    }

    private static void askOfTheGround(String at, int kind) {
        int x = column(), y = row();
        int q = some(0, 3), d = some(0, 7), n = some(2, 6), what = some(0, 9);
        switch (kind) {
            case 0:
                due.is(at + "contrast(" + q + ", " + d + ")", program.contrast(q, d), plain.contrast(q, d));
                break;
            case 1:
                due.is(at + "best(" + (q - 1) + ")", program.best(q - 1), plain.best(q - 1));
                break;
            case 2:
                due.is(at + "shade(" + (d - 2) + ")", program.shade(d - 2), plain.shade(d - 2));
                break;
            case 3:
                due.is(at + "error(" + n + ")", program.error(n), plain.error(n));
                break;
            case 4:
                due.is(at + "level(" + what + ", " + q + ")", program.level(what, q), plain.level(what, q));
                break;
            case 5:
                due.is(at + "flow(" + x + ", " + y + ", " + q / 2 + ")", program.flow(x, y, q / 2), plain.flow(x, y, q / 2));
                break;
            case 6:
                due.is(at + "basin(" + x + ", " + y + ")", program.basin(x, y), plain.basin(x, y));
                break;
            default:
                due.is(at + "cell(" + x + ", " + y + ", " + what + ")", program.cell(x, y, what), plain.cell(x, y, what));
                break;
        }
    }

    private static void askOfTheStrokes(String at, int kind) {
        int x = column(), y = row();
        int s = some(0, Math.max(0, plain.count(3))), k = some(-3, 6), what = some(0, 10);
        switch (kind) {
            case 0: case 1:
                due.is(at + "why(" + x + ", " + y + ")", program.why(x, y), plain.why(x, y));
                break;
            case 2:
                due.is(at + "whose(" + x + ", " + y + ")", program.whose(x, y), plain.whose(x, y));
                break;
            case 3: case 4:
                due.is(at + "count(" + what + ")", program.count(what), plain.count(what));
                break;
            default:
                due.is(at + "stroke(" + s + ", " + k + ")", program.stroke(s, k), plain.stroke(s, k));
                break;
        }
    }
}
