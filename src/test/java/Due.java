import java.util.ArrayList;
import java.util.List;

/** What the project's tests share: answers told against those that are due. */
final class Due {
    private final List<String> wrong = new ArrayList<>();
    private int asked = 0;

    void is(String call, long got, long due) {
        asked++;
        if (got != due) {
            wrong.add(call + " answered " + got + ", due is " + due);
        }
    }

    void holds(String what, boolean so) {
        asked++;
        if (!so) {
            wrong.add(what);
        }
    }

    boolean hasWrong() {
        return !wrong.isEmpty();
    }

    /** Writes letters behind the text of the object. */
    static void write(HillStrokes hills, String text) {
        for (int i = 0; i < text.length(); i++) {
            hills.write(text.charAt(i));
        }
    }

    /** A new object with that text in it, not laid. */
    static HillStrokes written(String text) {
        HillStrokes hills = new HillStrokes();
        write(hills, text);
        return hills;
    }

    /** A new object whose ground is that text. */
    static HillStrokes laid(String text) {
        HillStrokes hills = written(text);
        if (hills.lay() < 0) {
            throw new IllegalStateException("the test's own text can not be laid: " + text);
        }
        return hills;
    }

    /** Every answer that only asks, in one row: two objects alike give the same row. */
    static String everything(HillStrokes h) {
        StringBuilder row = new StringBuilder();
        for (int what = 0; what <= 10; what++) {
            row.append(h.count(what)).append(' ');
        }
        for (int y = 0; y < h.count(1); y++) {
            for (int x = 0; x < h.count(0); x++) {
                row.append("| ");
                for (int what = 0; what <= 9; what++) {
                    row.append(h.cell(x, y, what)).append(' ');
                }
                row.append(h.flow(x, y, 0)).append(' ').append(h.flow(x, y, 1)).append(' ');
                row.append(h.basin(x, y)).append(' ').append(h.why(x, y)).append(' ');
                row.append(h.whose(x, y)).append(' ');
            }
        }
        for (int s = 0; s < h.count(3); s++) {
            row.append("| ");
            for (int k = -3; k < 6; k++) {
                row.append(h.stroke(s, k)).append(' ');
            }
        }
        for (int k = -2; k < 6; k++) {
            row.append(h.shade(k)).append(' ');
        }
        return row.toString();
    }

    /** Tells what was wrong, and ends the test. */
    void end() {
        for (int i = 0; i < wrong.size() && i < 40; i++) {
            System.out.println(wrong.get(i));
        }
        System.out.println(wrong.isEmpty() ? asked + " answers as due" : wrong.size() + " of " + asked + " not as due");
        if (!wrong.isEmpty()) {
            System.exit(1);
        }
    }
}
