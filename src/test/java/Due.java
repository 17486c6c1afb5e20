import java.util.ArrayList;
import java.util.List;

/** What the project's tests share: answers told against those that are due. */
final class Due {
    private final List<String> wrong = new ArrayList<>();
    private int asked = 0;

    void is(String call, long got, long due) {
        asked++;
        if (got != due) {
            wrong.add(call + " answered " + got + ", due is " + due);
        }
    }

    void holds(String what, boolean so) {
        asked++;
        if (!so) {
            wrong.add(what);
        }
    }

    boolean hasWrong() {
        return !wrong.isEmpty();
    }

    /** Writes letters behind the text of the object. */
    static void write(HillStrokes hills, String text) {
        for (int i = 0; i < text.length(); i++) {
            hills.write(text.charAt(i));
        }
    }

    /** A new object with that text in it, not laid. */
    static HillStrokes written(String text) {
        HillStrokes hills = new HillStrokes();
        write(hills, text);
        return hills;
    }

    /** A new object whose ground is that text. */
    static HillStrokes laid(String text) {
        HillStrokes hills = written(text);
        if (hills.lay() < 0) {
            throw new IllegalStateException("the test's own text can not be laid: " + text);
        }
        return hills;
    }

    /**
     * What the object holds, in one row, by few calls: two objects alike give the
     * same row. Of the lights it has what can be seen by the tones.
     */
    static String state(HillStrokes h) {
        StringBuilder row = new StringBuilder();
        for (int what = 0; what <= 10; what++) {
            row.append(h.count(what)).append(' ');
        }
        row.append(h.fault()).append(" heights and tones ");
        int columns = h.count(0), cells = columns * h.count(1), strokes = h.count(3);
        for (int i = 0; i < cells; i++) {
            int x = i % columns, y = i / columns;
            row.append(h.cell(x, y, 0)).append(' ').append(h.cell(x, y, 8)).append(' ');
        }
        for (int s = 0; s < strokes; s++) {
            row.append("stroke ");
            for (int k = -3; k < 6; k++) {
                row.append(h.stroke(s, k)).append(' ');
            }
        }
        return row.toString();
    }

    /** Every answer that only asks; for grounds of 3 by 3, as an object is good for 512 calls. */
    static String answers(HillStrokes h) {
        StringBuilder row = new StringBuilder(state(h));
        for (int i = 0; i < 9; i++) {
            int x = i % 3, y = i / 3;
            for (int what = 1; what <= 9; what++) {
                row.append(h.cell(x, y, what)).append(' ');
            }
            row.append(h.flow(x, y, 0)).append(' ').append(h.flow(x, y, 1)).append(' ').append(h.basin(x, y));
            row.append(' ').append(h.why(x, y)).append(' ').append(h.whose(x, y)).append(" | ");
        }
        for (int i = 0; i < 32; i++) {
            row.append(h.contrast(i / 8, i % 8)).append(' ');
        }
        for (int q = -1; q < 4; q++) {
            row.append(h.best(q)).append(' ');
        }
        for (int k = -2; k < 7; k++) {
            row.append(h.shade(k)).append(' ');
        }
        for (int n = 2; n <= 6; n++) {
            row.append(h.error(n)).append(' ');
        }
        for (int v = 1; v <= 9; v++) {
            row.append(h.level(v, 0)).append(' ').append(h.level(v, 1)).append(' ').append(h.level(v, 2)).append(' ');
        }
        return row.toString();
    }

    /** Empty, if something was asked and all was as due. */
    String outcome() {
        if (asked == 0) {
            return "nothing was asked";
        }
        return String.join("\n    ", wrong.subList(0, Math.min(wrong.size(), 8)));
    }

    /** Tells what was wrong, and ends the test. */
    void end() {
        for (int i = 0; i < wrong.size() && i < 40; i++) {
            System.out.println(wrong.get(i));
        }
        System.out.println(wrong.isEmpty() ? asked + " answers as due" : wrong.size() + " of " + asked + " not as due");
        if (!wrong.isEmpty()) {
            System.exit(1);
        }
    }
}
