/** Promises 1 to 9: a new object, write, wipe, fault, lay, raise, light, shades, undo. */
final class ToldTest {
    private static final String FIRST =
        "g77;r0012100;r0135310;r1258521;r1369631;r0257520;r0134310;r0011100;l7007;s4;";
    /** Falls to the right by one a column, so that strokes run along the rows. */
    private static final String SLOPE = "g93;r987654321;r987654321;r987654321;";
    private static final int BAD = HillStrokes.BAD, NO = HillStrokes.NO, FULL = HillStrokes.FULL,
        NONE = HillStrokes.NONE;

    private static final Due due = new Due();

    public static void main(String[] args) {
        newObject();
        writing();
        wiping();
        faults();
        longTexts();
        laying();
        layingRefused();
        layingOverAnother();
        raising();
        raisingRubsOut();
        lights();
        shadesTold();
        undoneOneByOne();
        sixAtMost();
        whatIsNoChange();
        due.end();
    }

    private static void newObject() {
        HillStrokes h = new HillStrokes();
        String rows = "0012100" + "0135310" + "1258521" + "1369631" + "0257520" + "0134310" + "0011100";
        for (int i = 0; i < 49; i++) {
            due.is("new: height " + i, h.cell(i % 7, i / 7, 0), rows.charAt(i) - '0');
        }
        int[] counts = {7, 7, 4, 0, 0, 16, 0, 15, 0, 0, 106};
        for (int what = 0; what < counts.length; what++) {
            due.is("new: count " + what, h.count(what), counts[what]);
        }
        int[] lights = {7, 0, 0, 7};
        for (int q = 0; q < 4; q++) {
            due.is("new: light " + q, h.light(q, lights[q]), NO);
        }
        due.is("new: fault", h.fault(), NONE);
        due.is("new: undo", h.undo(), NO);
        due.is("new: whose", h.whose(3, 3), NONE);
        HillStrokes told = Due.laid(FIRST);
        told.wipe();
        due.holds("new is as the first text laid", Due.state(told).equals(Due.state(h)));
        h.raise(0, 0, 9);
        due.is("another object is another", new HillStrokes().cell(0, 0, 0), 0);
    }

    private static void writing() {
        HillStrokes h = new HillStrokes();
        due.is("write 32", h.write(32), 1);
        due.is("write 126", h.write(126), 2);
        int[] bad = {31, 127, 0, -1, 103 + 65536, Integer.MIN_VALUE, Integer.MAX_VALUE};
        for (int letter : bad) {
            due.is("write " + letter, h.write(letter), BAD);
        }
        due.is("letters", h.count(9), 2);
        for (int i = 3; i <= 200; i++) {
            due.is("write to " + i, h.write('a'), i);
        }
        due.is("write the 201st", h.write('a'), FULL);
        due.is("BAD is ahead of FULL", h.write(127), BAD);
        due.is("letters when full", h.count(9), 200);
        due.is("wipe when full", h.wipe(), 200);
        due.is("write again", h.write('g'), 1);
    }

    private static void wiping() {
        HillStrokes h = Due.written("g33;");
        due.is("wipe", h.wipe(), 4);
        due.is("wipe again", h.wipe(), 0);
        due.is("no letters", h.count(9), 0);
        due.is("the ground stays", h.count(0), 7);
        due.is("no change", h.count(8), 0);
        Due.write(h, "s");
        due.is("what was wiped is gone", h.fault(), 0);
        h.wipe();
        due.is("empty again", h.fault(), NONE);
    }

    private static void fault(String text, int place) {
        due.is("fault of " + text, Due.written(text).fault(), place);
        due.is("lay of " + text, Due.written(text).lay() < 0 ? 1 : 0, place == NONE && !text.isEmpty() ? 0 : 1);
    }

    private static void faults() {
        String[] without = {"", "g33;", "g99;", "g39;", "g93;", "g33;r000;r999;r123;", "g53;r01234;",
            "g33;l0000;", "g33;l7777;", "g33;l0123;l7654;", "g33;s2;", "g33;s6;", "g33;s2;s6;s3;",
            "g33;r111;l0123;r222;s3;r333;", "g35;r000;r000;r000;r000;r000;"};
        for (String text : without) {
            fault(text, NONE);
        }
        String[] first = {"g", "g3", "g33", "g333;", "g23;", "g32;", "g03;", "g3a;", "g;", "g3;", "G33;", ";",
            " g33;", "s4;", "l7777;", "r000;", "s4;g33;", "r123;g33;", "33;", "g33,", "g:3;", "g3/;"};
        for (String text : first) {
            fault(text, 0);
        }
        String[] second = {"g", "g33;", "g44;", ";", " ", "x1;", "r;", "r00;", "r0000;", "r00a;", "r000", "r0:0;",
            "r0/0;", "r 00;", "l;", "l000;", "l00000;", "l8000;", "l0008;", "l9000;", "l000/;", "l0000", "s;", "s1;",
            "s7;", "s0;", "s44;", "s4", "s", "S4;", "s9;r0;"};
        for (String text : second) {
            fault("g33;" + text, 4);
        }
        fault("g33;s4;g33;", 7);
        fault("g33;r000;r000;r000;r000;", 19);
        fault("g33;r000;r000;r000;s2;r000;", 22);
        fault("g35;r000;r000;r000;r000;r000;r000;", 29);
        fault("g53;r000;", 4);
        fault("g53;r00000;r00000;r00000;r00000;", 25);
        HillStrokes h = Due.written("g33;r123;");
        String before = Due.state(h);
        h.fault();
        due.holds("fault changes nothing", before.equals(Due.state(h)));
        due.is("fault anew", h.fault(), NONE);
        Due.write(h, "r");
        due.is("fault of what is not ended", h.fault(), 9);
        Due.write(h, "456;");
        due.is("fault of what is ended", h.fault(), NONE);
    }

    private static void longTexts() {
        String text = "g33;" + "r111;" + "r222;" + "s4;".repeat(61) + "s5;";
        HillStrokes h = Due.written(text);
        due.is("letters of the longest", h.count(9), 200);
        due.is("fault of the longest", h.fault(), NONE);
        due.is("lay of the longest", h.lay(), 9);
        due.is("the last item counts", h.count(2), 5);
        fault("g33;" + "s4;".repeat(65) + "s", 199);
    }

    private static void laying() {
        HillStrokes h = Due.written("g43;r1234;l0123;s2;r5678;l3456;s6;");
        due.is("lay", h.lay(), 12);
        int[] heights = {1, 2, 3, 4, 5, 6, 7, 8, 0, 0, 0, 0};
        for (int i = 0; i < 12; i++) {
            due.is("laid height " + i, h.cell(i % 4, i / 4, 0), heights[i]);
        }
        due.is("columns", h.count(0), 4);
        due.is("rows", h.count(1), 3);
        due.is("the last s counts", h.count(2), 6);
        for (int q = 0; q < 4; q++) {
            due.is("the last l counts " + q, h.light(q, 3 + q), NO);
        }
        due.is("the text stays", h.count(9), 34);
        HillStrokes plain = Due.laid("g33;");
        due.is("4 shades without", plain.count(2), 4);
        for (int q = 0; q < 4; q++) {
            due.is("light 7 without " + q, plain.light(q, 7), NO);
        }
        due.is("nothing up", plain.count(10), 0);
        due.is("the greatest ground", Due.written("g99;").lay(), 81);
    }

    private static void layingRefused() {
        HillStrokes h = new HillStrokes();
        h.draw(3, 3);
        h.light(0, 3);
        String before = Due.state(h);
        due.is("lay without a g", h.lay(), NO);
        due.holds("nothing changes", before.equals(Due.state(h)));
        Due.write(h, "g33;r111;s9;");
        due.is("lay with a fault", h.lay(), NO);
        h.wipe();
        due.holds("nothing changes with a fault", before.equals(Due.state(h)));
        due.is("the changes stay", h.undo(), 1);
    }

    private static void layingOverAnother() {
        HillStrokes h = Due.laid("g99;" + "r999999999;".repeat(9));
        due.is("all of 9", h.count(10), 729);
        h.raise(8, 8, 0);
        due.is("a stroke ahead of lay", h.draw(7, 7), 0);
        h.light(0, 1);
        h.shades(2);
        h.wipe();
        Due.write(h, "g99;");
        due.is("laid over", h.lay(), 81);
        due.is("rows not told are 0", h.count(10), 0);
        due.is("no strokes", h.count(3), 0);
        due.is("none can be undone", h.count(8), 0);
        due.is("undo behind lay", h.undo(), NO);
        due.is("light as without", h.light(0, 7), NO);
        due.is("shades as without", h.count(2), 4);
        h.raise(0, 0, 5);
        due.is("lay once more", h.lay(), 81);
        due.is("as the text tells", h.cell(0, 0, 0), 0);
        h.wipe();
        Due.write(h, "g33;r999;");
        h.lay();
        due.is("a smaller one has no such cell", h.cell(3, 0, 0), BAD);
        due.is("heights of the smaller one", h.count(10), 27);
        due.is("ridges of the smaller one", h.count(5), 0);
    }

    private static void raising() {
        HillStrokes h = Due.laid("g39;r123;");
        due.is("raise", h.raise(1, 0, 9), 2);
        due.is("raised", h.cell(1, 0, 0), 9);
        due.is("lower", h.raise(1, 0, 0), 9);
        due.is("lowered", h.cell(1, 0, 0), 0);
        due.is("raise the last cell", h.raise(2, 8, 7), 0);
        due.is("raised the last cell", h.cell(2, 8, 0), 7);
        due.is("it is so", h.raise(2, 8, 7), NO);
        int[][] bad = {{3, 0, 1}, {0, 9, 1}, {-1, 0, 1}, {0, -1, 1}, {8, 2, 1}, {0, 0, 10}, {0, 0, -1},
            {3, 0, 0}, {Integer.MIN_VALUE, 0, 1}, {0, Integer.MAX_VALUE, 1}, {0, 0, Integer.MIN_VALUE}};
        String before = Due.state(h);
        for (int[] c : bad) {
            due.is("raise " + c[0] + " " + c[1] + " " + c[2], h.raise(c[0], c[1], c[2]), BAD);
        }
        due.holds("nothing changes", before.equals(Due.state(h)));
        due.is("changes", h.count(8), 3);
    }

    private static void raisingRubsOut() {
        String text = "g99;" + "r987654321;".repeat(9);
        for (int y = 0; y < 9; y++) {
            HillStrokes h = Due.laid(text);
            h.draw(1, 0);
            h.draw(1, 4);
            h.draw(1, 8);
            int before = h.count(3);
            due.is("three strokes", before, 3);
            h.raise(0, y, 0);
            // The strokes begin in column 1, so column 0 is beside their first cells.
            boolean near0 = y <= 1, near1 = y >= 3 && y <= 5, near2 = y >= 7;
            due.is("left by raise(0, " + y + ")", h.count(3), near0 || near1 || near2 ? 2 : 3);
            due.is("the first then", h.stroke(0, 0), near0 ? 37 : 1);
            due.is("the last then", h.stroke(h.count(3) - 1, 0), near2 ? 37 : 73);
            h.undo();
            due.is("again three", h.count(3), 3);
            due.is("the second again", h.stroke(1, 0), 37);
        }
        HillStrokes h = Due.laid(text);
        h.draw(0, 1);
        h.draw(0, 5);
        h.draw(0, 3);
        h.raise(3, 2, 0);
        due.is("two at once", h.count(3), 1);
        due.is("the one that is left", h.stroke(0, 0), 45);
        h.raise(3, 5, 0);
        due.is("one that has the cell", h.count(3), 0);
        h.undo();
        h.undo();
        due.is("all three", h.count(3), 3);
        due.is("0 again", h.stroke(0, 0), 9);
        due.is("1 again", h.stroke(1, 0), 45);
        due.is("2 again", h.stroke(2, 0), 27);
        HillStrokes far = Due.laid(SLOPE);
        far.draw(0, 1);
        far.raise(7, 1, 9);
        due.is("two away it stays", far.count(3), 1);
        far.raise(6, 2, 9);
        due.is("beside its last cell it goes", far.count(3), 0);
    }

    private static void lights() {
        HillStrokes h = Due.laid("g33;l0123;");
        for (int q = 0; q < 4; q++) {
            due.is("light " + q, h.light(q, 7 - q), q);
            due.is("light so " + q, h.light(q, 7 - q), NO);
        }
        for (int q = 0; q < 4; q++) {
            due.is("light back " + q, h.light(q, q), 7 - q);
        }
        int[][] bad = {{-1, 0}, {4, 0}, {0, -1}, {0, 8}, {Integer.MIN_VALUE, 0}, {0, Integer.MAX_VALUE}, {4, 8}};
        for (int[] c : bad) {
            due.is("light " + c[0] + " " + c[1], h.light(c[0], c[1]), BAD);
        }
        due.is("changes", h.count(8), 6);
        HillStrokes one = Due.laid("g33;r012;r345;r678;l0000;");
        int tone = one.cell(0, 2, 8);
        one.light(3, 4);
        due.is("the tone turns in its quarter", one.cell(1, 1, 8), 94);
        due.is("and not in another", one.cell(0, 2, 8), tone);
    }

    private static void shadesTold() {
        HillStrokes h = new HillStrokes();
        due.is("shades 2", h.shades(2), 4);
        due.is("shades 6", h.shades(6), 2);
        due.is("shades so", h.shades(6), NO);
        due.is("shades told", h.count(2), 6);
        int[] bad = {1, 7, 0, -1, Integer.MIN_VALUE, Integer.MAX_VALUE};
        for (int n : bad) {
            due.is("shades " + n, h.shades(n), BAD);
        }
        due.is("still told", h.count(2), 6);
        due.is("changes", h.count(8), 2);
        HillStrokes flat = Due.laid("g33;");
        flat.shades(5);
        due.is("N told, not the groups there are", flat.count(2), 5);
        due.is("one group", flat.shade(-1), 1);
    }

    private static void change(HillStrokes h, int kind) {
        switch (kind) {
            case 0: h.raise(3, 1, 9); break;
            case 1: h.light(2, 5); break;
            case 2: h.shades(3); break;
            case 3: h.draw(5, 4); break;
            case 4: h.rub(0); break;
            case 5: h.hatch(); break;
            default: h.turn(); break;
        }
    }

    private static void undoneOneByOne() {
        for (int kind = 0; kind < 7; kind++) {
            HillStrokes h = new HillStrokes();
            h.draw(1, 2);
            h.draw(3, 0);
            String before = Due.state(h);
            due.is("two changes", h.count(8), 2);
            change(h, kind);
            due.is("a change of kind " + kind, h.count(8), 3);
            due.holds("kind " + kind + " changes something", !before.equals(Due.state(h)));
            due.is("undone " + kind, h.undo(), 2);
            due.holds("kind " + kind + " is undone whole", before.equals(Due.state(h)));
            due.is("lights are undone " + kind, h.light(2, 0), NO);
        }
    }

    private static void sixAtMost() {
        HillStrokes h = new HillStrokes();
        String[] states = new String[10];
        for (int i = 0; i < 9; i++) {
            due.is("changes ahead of " + i, h.count(8), Math.min(i, 6));
            h.raise(0, 0, i + 1);
            states[i + 1] = h.cell(0, 0, 0) + "";
        }
        for (int i = 9; i > 3; i--) {
            due.is("height ahead of undo", h.cell(0, 0, 0), Integer.parseInt(states[i]));
            due.is("undo", h.undo(), i - 4);
        }
        due.is("the oldest that can be", h.cell(0, 0, 0), 3);
        due.is("no more", h.undo(), NO);
        due.is("still so", h.cell(0, 0, 0), 3);
        h.raise(0, 0, 8);
        h.raise(1, 0, 8);
        due.is("undo of new ones", h.undo(), 1);
        h.shades(2);
        due.is("and a change again", h.count(8), 2);
        due.is("undo that", h.undo(), 1);
        due.is("shades again", h.count(2), 4);
        due.is("undo the one ahead", h.undo(), 0);
        due.is("height again", h.cell(0, 0, 0), 3);
    }

    private static void whatIsNoChange() {
        HillStrokes h = Due.laid("g33;");
        h.raise(0, 0, 0);
        h.light(0, 7);
        h.shades(4);
        h.draw(0, 0);
        h.rub(0);
        h.write('s');
        h.fault();
        h.lay();
        h.wipe();
        due.is("what is refused is no change", h.count(8), 0);
        due.is("hatch of nothing", h.hatch(), 0);
        due.is("is a change", h.count(8), 1);
        due.is("turn", h.turn(), 4);
        due.is("turn of nothing", h.turn(), 0);
        due.is("is a change, too", h.count(8), 3);
        due.is("undo of nothing", h.undo(), 2);
        due.is("light as turned", h.light(0, 0), NO);
        due.is("undo of the turn", h.undo(), 1);
        due.is("light as told", h.light(0, 7), NO);
    }
}
