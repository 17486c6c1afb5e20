import java.util.ArrayDeque;
import java.util.ArrayList;
import java.util.Arrays;
import java.util.Collections;
import java.util.Deque;
import java.util.List;
import java.util.regex.Pattern;

/**
 * The document once more, written another way and without a thought of cost:
 * all cuts and all lights are tried, texts are matched by patterns, and undone
 * is a copy of everything. Random runs hold the program against it.
 */
final class PlainHills {
    private static final int BAD = -1, NO = -2, FULL = -3, NONE = -4;

    /** One stroke: its cells {x, y}, and why it ends. */
    private static final class Line {
        final List<int[]> cells = new ArrayList<>();
        int end;
    }

    private int w, h, n;
    private int[][] z;
    private int[] lights;
    private List<Line> lines;
    private String text = "";
    private final Deque<Object[]> undone = new ArrayDeque<>();

    PlainHills() {
        text = "g77;r0012100;r0135310;r1258521;r1369631;r0257520;r0134310;r0011100;l7007;s4;";
        lay();
        text = "";
    }

    private void change() {
        int[][] copy = new int[h][];
        for (int y = 0; y < h; y++) {
            copy[y] = z[y].clone();
        }
        undone.addLast(new Object[] {copy, lights.clone(), n, new ArrayList<>(lines)});
        if (undone.size() > 6) {
            undone.removeFirst();
        }
    }

    // ---- told

    int write(int letter) {
        if (letter < 32 || letter > 126) return BAD;
        if (text.length() == 200) return FULL;
        text += (char) letter;
        return text.length();
    }

    int wipe() {
        int length = text.length();
        text = "";
        return length;
    }

    int fault() {
        int at = 0;
        String rows = null;
        int left = 0;
        while (at < text.length()) {
            int semicolon = text.indexOf(';', at);
            if (semicolon < 0) return at;
            String item = text.substring(at, semicolon);
            if (rows == null) {
                if (!item.matches("g[3-9][3-9]")) return at;
                rows = "r[0-9]{" + item.charAt(1) + "}";
                left = item.charAt(2) - '0';
            } else if (Pattern.matches(rows, item) && left > 0) {
                left--;
            } else if (!item.matches("l[0-7]{4}") && !item.matches("s[2-6]")) {
                return at;
            }
            at = semicolon + 1;
        }
        return NONE;
    }

    int lay() {
        if (fault() != NONE || text.isEmpty()) return NO;
        String[] items = text.split(";");
        w = items[0].charAt(1) - '0';
        h = items[0].charAt(2) - '0';
        z = new int[h][w];
        lights = new int[] {7, 7, 7, 7};
        n = 4;
        lines = new ArrayList<>();
        undone.clear();
        int y = 0;
        for (String item : items) {
            int[] figures = item.substring(1).chars().map(c -> c - '0').toArray();
            if (item.startsWith("r")) z[y++] = figures;
            if (item.startsWith("l")) lights = figures;
            if (item.startsWith("s")) n = figures[0];
        }
        return w * h;
    }

    private boolean in(int x, int y) {
        return 0 <= x && x < w && 0 <= y && y < h;
    }

    int raise(int x, int y, int v) {
        if (!in(x, y) || v < 0 || v > 9) return BAD;
        if (z[y][x] == v) return NO;
        change();
        int was = z[y][x];
        z[y][x] = v;
        List<Line> stay = new ArrayList<>();
        for (Line line : lines) {
            boolean near = false;
            for (int[] c : line.cells) near |= touches(c[0], c[1], x, y);
            if (!near) stay.add(line);
        }
        lines = stay;
        return was;
    }

    int light(int q, int d) {
        if (q < 0 || q > 3 || d < 0 || d > 7) return BAD;
        if (lights[q] == d) return NO;
        change();
        int was = lights[q];
        lights[q] = d;
        return was;
    }

    int shades(int to) {
        if (to < 2 || to > 6) return BAD;
        if (to == n) return NO;
        change();
        int was = n;
        n = to;
        return was;
    }

    @SuppressWarnings("unchecked")
    int undo() {
        if (undone.isEmpty()) return NO;
        Object[] last = undone.removeLast();
        z = (int[][]) last[0];
        lights = (int[]) last[1];
        n = (Integer) last[2];
        lines = (List<Line>) last[3];
        return undone.size();
    }

    // ---- slopes

    private static int dx(int d) {
        return d == 1 || d == 2 || d == 3 ? 1 : d == 5 || d == 6 || d == 7 ? -1 : 0;
    }

    private static int dy(int d) {
        return d == 3 || d == 4 || d == 5 ? 1 : d == 7 || d == 0 || d == 1 ? -1 : 0;
    }

    private int east(int x, int y) {
        return z[y][Math.min(x + 1, w - 1)] - z[y][Math.max(x - 1, 0)];
    }

    private int south(int x, int y) {
        return z[Math.min(y + 1, h - 1)][x] - z[Math.max(y - 1, 0)][x];
    }

    private int down(int x, int y) {
        int best = NONE, most = 0;
        for (int d = 7; d >= 0; d--) {
            if (in(x + dx(d), y + dy(d))) {
                int fall = (z[y][x] - z[y + dy(d)][x + dx(d)]) * (dx(d) == 0 || dy(d) == 0 ? 3 : 2);
                if (fall > 0 && fall >= most) {
                    most = fall;
                    best = d;
                }
            }
        }
        return best;
    }

    private boolean beyond(int x, int y, boolean higher) {
        for (int d = 0; d < 8; d++) {
            int ax = x + dx(d), ay = y + dy(d), bx = x - dx(d), by = y - dy(d);
            if (in(ax, ay) && in(bx, by)) {
                int a = z[ay][ax], b = z[by][bx];
                if (higher ? z[y][x] > Math.max(a, b) : z[y][x] < Math.min(a, b)) return true;
            }
        }
        return false;
    }

    private int quarter(int x, int y) {
        boolean left = x < w / 2, upper = y < h / 2;
        return upper ? left ? 0 : 1 : left ? 2 : 3;
    }

    private int tone(int x, int y, int d) {
        int tone = 0 - (dx(d) * east(x, y) + dy(d) * south(x, y));
        if (beyond(x, y, true) && tone < 4) tone = 4;
        if (beyond(x, y, false) && tone > -4) tone = -4;
        return tone;
    }

    private int tone(int x, int y) {
        return tone(x, y, lights[quarter(x, y)]);
    }

    int cell(int x, int y, int what) {
        if (!in(x, y) || what < 0 || what > 9) return BAD;
        int[] simple = {z[y][x], east(x, y) + 100, south(x, y) + 100, Math.abs(east(x, y)) + Math.abs(south(x, y)),
            down(x, y), beyond(x, y, true) ? 1 : 0, beyond(x, y, false) ? 1 : 0, quarter(x, y), tone(x, y) + 100};
        if (what < 9) return simple[what];
        List<List<Integer>> groups = cut(n);
        for (int g = 0; g < groups.size(); g++) {
            if (groups.get(g).contains(tone(x, y))) return g;
        }
        throw new IllegalStateException("a tone of no group");
    }

    private List<int[]> way(int x, int y) {
        List<int[]> way = new ArrayList<>();
        way.add(new int[] {x, y});
        int d = down(x, y);
        if (d != NONE) way.addAll(way(x + dx(d), y + dy(d)));
        return way;
    }

    int flow(int x, int y, int what) {
        if (!in(x, y) || what < 0 || what > 1) return BAD;
        List<int[]> way = way(x, y);
        int[] pit = way.get(way.size() - 1);
        return what == 0 ? 9 * pit[1] + pit[0] : way.size() - 1;
    }

    int basin(int x, int y) {
        if (!in(x, y)) return BAD;
        int sum = 0;
        for (int i = 0; i < w * h; i++) {
            if (flow(i % w, i / w, 0) == 9 * y + x) sum++;
        }
        return sum;
    }

    // ---- light and shade

    int contrast(int q, int d) {
        if (q < 0 || q > 3 || d < 0 || d > 7) return BAD;
        List<Integer> tones = new ArrayList<>();
        for (int i = 0; i < w * h; i++) {
            if (quarter(i % w, i / w) == q) tones.add(tone(i % w, i / w, d));
        }
        return Collections.max(tones) - Collections.min(tones);
    }

    private static boolean little(int a, int b) {
        int apart = Math.abs(a - b);
        return Math.min(apart, 8 - apart) <= 1;
    }

    private int[] bestLights() {
        int[][] by = new int[4][8];
        for (int q = 0; q < 4; q++) {
            for (int d = 0; d < 8; d++) by[q][d] = contrast(q, d);
        }
        int[] best = {0, 0, 0, 0, -1};
        for (int i = 0; i < 8 * 8 * 8 * 8; i++) {
            int a = i >> 9, b = i >> 6 & 7, c = i >> 3 & 7, d = i & 7;
            int sum = by[0][a] + by[1][b] + by[2][c] + by[3][d];
            if (little(a, b) && little(c, d) && little(a, c) && little(b, d) && sum > best[4]) {
                best = new int[] {a, b, c, d, sum};
            }
        }
        return best;
    }

    int best(int q) {
        if (q < -1 || q > 3) return BAD;
        return bestLights()[q < 0 ? 4 : q];
    }

    int turn() {
        change();
        int[] best = bestLights();
        int other = 0;
        for (int q = 0; q < 4; q++) {
            if (best[q] != lights[q]) other++;
        }
        lights = Arrays.copyOf(best, 4);
        return other;
    }

    private static int mark(List<Integer> group) {
        return group.get((group.size() - 1) / 2);
    }

    private static int errorOf(List<Integer> group) {
        int sum = 0;
        for (int tone : group) sum += Math.abs(tone - mark(group));
        return sum;
    }

    /** All cuts in the order of the document; the first of the least error stays. */
    private List<List<Integer>> cut(int many) {
        List<Integer> tones = new ArrayList<>();
        for (int i = 0; i < w * h; i++) tones.add(tone(i % w, i / w));
        Collections.sort(tones);
        List<Integer> begins = new ArrayList<>();
        for (int i = 0; i < tones.size(); i++) {
            if (i == 0 || !tones.get(i).equals(tones.get(i - 1))) begins.add(i);
        }
        int groups = Math.min(many, begins.size());
        int[][] errors = new int[begins.size() + 1][begins.size() + 1];
        begins.add(tones.size());
        for (int a = 0; a + 1 < begins.size(); a++) {
            for (int b = a + 1; b < begins.size(); b++) {
                errors[a][b] = errorOf(tones.subList(begins.get(a), begins.get(b)));
            }
        }
        int[] best = new int[groups + 1];
        int[] trial = new int[groups + 1];
        trial[groups] = begins.size() - 1;
        tryCuts(errors, trial, 1, 0, best, new int[] {Integer.MAX_VALUE});
        List<List<Integer>> found = new ArrayList<>();
        for (int g = 0; g < groups; g++) {
            found.add(tones.subList(begins.get(best[g]), begins.get(best[g + 1])));
        }
        return found;
    }

    private static void tryCuts(int[][] errors, int[] trial, int g, int sum, int[] best, int[] least) {
        int groups = trial.length - 1;
        if (g == groups) {
            int all = sum + errors[trial[g - 1]][trial[g]];
            if (all < least[0]) {
                least[0] = all;
                System.arraycopy(trial, 0, best, 0, trial.length);
            }
            return;
        }
        for (int begin = trial[g - 1] + 1; begin <= trial[groups] - (groups - g); begin++) {
            trial[g] = begin;
            tryCuts(errors, trial, g + 1, sum + errors[trial[g - 1]][begin], best, least);
        }
    }

    int shade(int k) {
        if (k < -2) return BAD;
        if (k == -2) return error(n);
        List<List<Integer>> groups = cut(n);
        if (k == -1) return groups.size();
        return k < groups.size() ? mark(groups.get(k)) + 100 : NONE;
    }

    int error(int many) {
        if (many < 2 || many > 6) return BAD;
        int sum = 0;
        for (List<Integer> group : cut(many)) sum += errorOf(group);
        return sum;
    }

    private void flood(boolean[][] up, int x, int y) {
        if (!in(x, y) || !up[y][x]) return;
        up[y][x] = false;
        for (int d = 0; d < 8; d += 2) flood(up, x + dx(d), y + dy(d));
    }

    int level(int v, int what) {
        if (v < 1 || v > 9 || what < 0 || what > 2) return BAD;
        boolean[][] up = new boolean[h][w];
        int hills = 0, line = 0, cells = 0;
        for (int y = 0; y < h; y++) {
            for (int x = 0; x < w; x++) {
                up[y][x] = z[y][x] >= v;
                if (up[y][x]) cells++;
                if (x > 0 && up[y][x] != up[y][x - 1]) line++;
                if (y > 0 && up[y][x] != up[y - 1][x]) line++;
            }
        }
        for (int i = 0; i < w * h; i++) {
            if (up[i / w][i % w]) {
                hills++;
                flood(up, i % w, i / w);
            }
        }
        return what == 0 ? hills : what == 1 ? line : cells;
    }

    // ---- strokes

    private static boolean touches(int ax, int ay, int bx, int by) {
        return Math.max(Math.abs(ax - bx), Math.abs(ay - by)) <= 1;
    }

    private boolean keptOff(int x, int y) {
        for (Line line : lines) {
            for (int[] c : line.cells) {
                if (touches(c[0], c[1], x, y)) return false;
            }
        }
        return true;
    }

    int why(int x, int y) {
        if (!in(x, y)) return BAD;
        int d = down(x, y);
        if (d == NONE) return 1;
        if (beyond(x, y, false)) return 2;
        if (!keptOff(x, y)) return 3;
        return keptOff(x + dx(d), y + dy(d)) ? 0 : 4;
    }

    private void begin(int x, int y) {
        Line line = new Line();
        List<int[]> way = way(x, y);
        for (int i = 0; line.end == 0; i++) {
            line.cells.add(way.get(i));
            if (i + 1 == way.size()) {
                line.end = 1;
            } else if (!keptOff(way.get(i + 1)[0], way.get(i + 1)[1])) {
                line.end = 2;
            } else if (line.cells.size() == 6) {
                line.end = 3;
            }
        }
        lines.add(line);
    }

    int draw(int x, int y) {
        if (!in(x, y)) return BAD;
        if (why(x, y) != 0) return NO;
        if (lines.size() == 20) return FULL;
        change();
        begin(x, y);
        return lines.size() - 1;
    }

    int rub(int s) {
        if (s < 0 || s >= lines.size()) return BAD;
        change();
        lines.remove(s);
        return lines.size();
    }

    int hatch() {
        change();
        int drawn = 0;
        while (lines.size() < 20) {
            int best = -1;
            for (int i = w * h - 1; i >= 0; i--) {
                if (why(i % w, i / w) == 0
                        && (best < 0 || cell(i % w, i / w, 3) >= cell(best % w, best / w, 3))) {
                    best = i;
                }
            }
            if (best < 0) break;
            begin(best % w, best / w);
            drawn++;
        }
        return drawn;
    }

    int stroke(int s, int k) {
        if (s < 0 || s >= lines.size() || k < -3) return BAD;
        List<int[]> cells = lines.get(s).cells;
        int[] first = cells.get(0), last = cells.get(cells.size() - 1);
        if (k == -1) return cells.size();
        if (k == -2) return lines.get(s).end;
        if (k == -3) return z[first[1]][first[0]] - z[last[1]][last[0]];
        return k < cells.size() ? 9 * cells.get(k)[1] + cells.get(k)[0] : NONE;
    }

    int whose(int x, int y) {
        if (!in(x, y)) return BAD;
        for (int s = 0; s < lines.size(); s++) {
            for (int[] c : lines.get(s).cells) {
                if (c[0] == x && c[1] == y) return s;
            }
        }
        return NONE;
    }

    int count(int what) {
        int ridges = 0, rivers = 0, pits = 0, heights = 0, cells = 0;
        for (int y = 0; y < h; y++) {
            for (int x = 0; x < w; x++) {
                if (beyond(x, y, true)) ridges++;
                if (beyond(x, y, false)) rivers++;
                if (down(x, y) == NONE) pits++;
                heights += z[y][x];
            }
        }
        for (Line line : lines) cells += line.cells.size();
        int[] all = {w, h, n, lines.size(), cells, ridges, rivers, pits, undone.size(), text.length(), heights};
        return what < 0 || what > 10 ? BAD : all[what];
    }
}
