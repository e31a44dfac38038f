import java.util.ArrayDeque;
import java.util.ArrayList;
import java.util.Arrays;
import java.util.Comparator;
import java.util.Deque;
import java.util.List;

/**
 * The document once more, written in another way (fractions for common points, angles for what is inside, points
 * that are counted one by one), so that random runs can be compared with it.
 */
final class Oracle {
    static final int NONE = -9;

    private List<List<int[]>> rings = new ArrayList<>();
    private Deque<List<List<int[]>>> past = new ArrayDeque<>();
    private final List<List<List<int[]>>> slots = new ArrayList<>(Arrays.asList(null, null));
    private String text = "";

    Oracle() {
        rings = parse("Faaeaeeae");
    }

    // ---- text

    int append(int c) {
        argument(c >= 0 && c <= 255);
        state(text.length() < 90);
        text += (char) c;
        return text.length();
    }

    int clearText() {
        int before = text.length();
        text = "";
        return before;
    }

    int errorPosition() {
        if (!text.startsWith("F")) {
            return 0;
        }
        int at = 1;
        for (int ring = 1;; ring++) {
            int begin = at;
            while (at < text.length() && at - begin < 20 && text.charAt(at) >= 'a' && text.charAt(at) <= 'p') {
                at++;
            }
            boolean whole = (at - begin) % 2 == 0 && at - begin >= 6;
            boolean ends = at == text.length();
            boolean slash = !ends && text.charAt(at) == '/' && ring < 4;
            if (!whole || !(ends || slash)) {
                return at;
            }
            if (broken(parse(text.substring(0, at))) != 0) {
                return begin;
            }
            if (ends) {
                return NONE;
            }
            at++;
        }
    }

    int load() {
        state(errorPosition() == NONE);
        rings = parse(text);
        past.clear();
        slots.set(0, null);
        slots.set(1, null);
        return rings.size();
    }

    private static List<List<int[]>> parse(String figure) {
        List<List<int[]>> all = new ArrayList<>();
        for (String ring : figure.substring(1).split("/")) {
            List<int[]> corners = new ArrayList<>();
            for (int i = 0; i < ring.length(); i += 2) {
                corners.add(new int[] {ring.charAt(i) - 'a', ring.charAt(i + 1) - 'a'});
            }
            all.add(corners);
        }
        return all;
    }

    /** The figure as a text that could be loaded. */
    String figure() {
        StringBuilder out = new StringBuilder("F");
        for (List<int[]> ring : rings) {
            out.append(out.length() > 1 ? "/" : "");
            for (int[] c : ring) {
                out.append((char) ('a' + c[0])).append((char) ('a' + c[1]));
            }
        }
        return out.toString();
    }

    // ---- the figure

    int about(int what) {
        argument(what >= 0 && what <= 9);
        List<int[]> outline = rings.get(0);
        int count = 0;
        switch (what) {
            case 0: return rings.size();
            case 1: return corners(rings).size();
            case 2: return area(rings);
            case 3: return count(1);
            case 4: return count(2);
            case 5: case 6:
                for (int k = 0; k < outline.size(); k++) {
                    count += kind(outline, k) == (what == 5 ? 1 : -1) ? 1 : 0;
                }
                return count;
            case 7:
                for (int k = 0; k < outline.size(); k++) {
                    count += cut(k) != NONE ? 1 : 0;
                }
                return count;
            case 8: return hull(outline);
            default:
                for (int[] a : corners(rings)) {
                    count += seen(a);
                }
                return count / 2;
        }
    }

    int ring(int r, int what) {
        index(r >= 0 && r < rings.size());
        argument(what >= 0 && what <= 5);
        List<int[]> ring = rings.get(r);
        int longest = -1;
        int first = -1;
        int points = 0;
        for (int k = 0; k < ring.size(); k++) {
            int[][] s = side(ring, k);
            int square = (s[1][0] - s[0][0]) * (s[1][0] - s[0][0]) + (s[1][1] - s[0][1]) * (s[1][1] - s[0][1]);
            if (square > longest) {
                longest = square;
                first = k;
            }
            points += pointsOn(s) - 1;
        }
        switch (what) {
            case 0: return ring.size();
            case 1: return Math.abs(sum(ring));
            case 2: return sum(ring) > 0 ? 1 : 0;
            case 3: return points;
            case 4: return first;
            default: return longest;
        }
    }

    int corner(int r, int k, int what) {
        int[] c = at(r, k);
        argument(what >= 0 && what <= 5);
        List<int[]> ring = rings.get(r);
        int[] before = ring.get((k + ring.size() - 1) % ring.size());
        int[] behind = ring.get((k + 1) % ring.size());
        switch (what) {
            case 0: return c[0];
            case 1: return c[1];
            case 2: return kind(ring, k);
            case 3: return seen(c);
            case 4: return Math.abs(sum(Arrays.asList(before, c, behind)));
            default: return pointsOn(side(ring, k)) - 1;
        }
    }

    int point(int x, int y) {
        argument(x >= 0 && x <= 15 && y >= 0 && y <= 15);
        for (int[][] s : sides(rings)) {
            if (common(s, new int[][] {{x, y}, {x, y}}).contains("end")) {
                return 1;
            }
        }
        if (!inRing(rings.get(0), x, y)) {
            return 0;
        }
        for (List<int[]> hole : rings.subList(1, rings.size())) {
            if (inRing(hole, x, y)) {
                return 3;
            }
        }
        return 2;
    }

    int sees(int r, int k, int s, int m) {
        int[] a = at(r, k);
        int[] b = at(s, m);
        return see(a, b) ? 1 : 0;
    }

    // ---- actions

    int move(int r, int k, int x, int y) {
        at(r, k);
        List<List<int[]>> then = copy(rings);
        then.get(r).set(k, new int[] {x, y});
        return accept(then);
    }

    int insert(int r, int k, int x, int y) {
        at(r, k);
        List<List<int[]>> then = copy(rings);
        then.get(r).add(k + 1, new int[] {x, y});
        state(then.get(r).size() <= 10);
        return accept(then);
    }

    int remove(int r, int k) {
        at(r, k);
        List<List<int[]>> then = copy(rings);
        then.get(r).remove(k);
        state(then.get(r).size() >= 3);
        return accept(then);
    }

    int addHole(int x, int y) {
        argument(x >= 0 && x <= 14 && y >= 0 && y <= 14);
        state(rings.size() < 4);
        List<List<int[]>> then = copy(rings);
        then.add(Arrays.asList(new int[] {x, y}, new int[] {x + 1, y}, new int[] {x, y + 1}));
        accept(copy(then));
        return rings.size() - 1;
    }

    int dropHole(int r) {
        index(r >= 0 && r < rings.size());
        state(r != 0);
        List<List<int[]>> then = copy(rings);
        then.remove(r);
        return accept(then);
    }

    int shift(int dx, int dy) {
        argument(Math.abs((long) dx) <= 15 && Math.abs((long) dy) <= 15);
        List<List<int[]>> then = copy(rings);
        for (int[] c : corners(then)) {
            c[0] += dx;
            c[1] += dy;
        }
        return acceptWhole(then);
    }

    int turn() {
        List<List<int[]>> then = copy(rings);
        for (int[] c : corners(then)) {
            int x = c[0];
            c[0] = 15 - c[1];
            c[1] = x;
        }
        return acceptWhole(then);
    }

    int mirror() {
        List<List<int[]>> then = copy(rings);
        for (int[] c : corners(then)) {
            c[0] = 15 - c[0];
        }
        return acceptWhole(then);
    }

    int undo() {
        state(!past.isEmpty());
        rings = past.removeLast();
        return past.size();
    }

    // ---- what would be

    int whyNot(int r, int k, int x, int y) {
        at(r, k);
        List<List<int[]>> then = copy(rings);
        then.get(r).set(k, new int[] {x, y});
        return broken(then);
    }

    int cut(int k) {
        at(0, k);
        List<int[]> outline = rings.get(0);
        int[] before = outline.get((k + outline.size() - 1) % outline.size());
        int[] behind = outline.get((k + 1) % outline.size());
        boolean ear = outline.size() > 3 && kind(outline, k) == 1 && see(before, behind);
        return ear ? Math.abs(sum(Arrays.asList(before, outline.get(k), behind))) : NONE;
    }

    int bestMove() {
        int best = NONE;
        int greatest = -1;
        for (int k = 0; k < rings.get(0).size(); k++) {
            for (int d = 0; d < 4; d++) {
                List<List<int[]>> then = nudged(k, d);
                if (broken(then) == 0 && area(then) > greatest) {
                    greatest = area(then);
                    best = 10 * k + d;
                }
            }
        }
        return best;
    }

    int inRow(int y, boolean border) {
        argument(y >= 0 && y <= 15);
        int count = 0;
        for (int x = 0; x <= 15; x++) {
            count += point(x, y) == 2 || border && point(x, y) == 1 ? 1 : 0;
        }
        return count;
    }

    int cuttings() {
        List<int[]> outline = rings.get(0);
        if (rings.size() > 1) {
            return NONE;
        }
        List<int[][]> lines = new ArrayList<>();
        for (int k = 0; k < outline.size(); k++) {
            if (kind(outline, k) == 0) {
                return NONE;
            }
            for (int m = 0; m < k; m++) {
                if (see(outline.get(k), outline.get(m))) {
                    lines.add(new int[][] {outline.get(k), outline.get(m)});
                }
            }
        }
        return setsOfLines(lines, 0, new ArrayList<>(), outline.size() - 3);
    }

    private static int setsOfLines(List<int[][]> lines, int from, List<int[][]> taken, int missing) {
        if (missing == 0) {
            return 1;
        }
        int count = 0;
        for (int i = from; i + missing <= lines.size(); i++) {
            boolean free = true;
            for (int[][] t : taken) {
                free &= !common(t, lines.get(i)).equals("cross");
            }
            if (free) {
                taken.add(lines.get(i));
                count += setsOfLines(lines, i + 1, taken, missing - 1);
                taken.remove(taken.size() - 1);
            }
        }
        return count;
    }

    // ---- scripts, simulations

    int runScript(int n, long script) {
        argument(n >= 1 && n <= 3);
        String digits = Long.toString(script);
        argument(script >= 0 && digits.length() <= 6 * n);
        digits = "0".repeat(6 * n - digits.length()) + digits;
        Oracle copy = new Oracle();
        copy.rings = copy(rings);
        for (int i = 0; i < n; i++) {
            boolean good;
            try {
                good = copy.command(digits.substring(6 * i, 6 * i + 6));
            } catch (RuntimeException e) {
                good = false;
            }
            if (!good) {
                return i;
            }
        }
        return NONE;
    }

    private boolean command(String c) {
        int d2 = c.charAt(1) - '0';
        int d3 = c.charAt(2) - '0';
        int middle = Integer.parseInt(c.substring(1, 3));
        int inner = Integer.parseInt(c.substring(3, 5));
        int high = Integer.parseInt(c.substring(2, 4));
        int low = Integer.parseInt(c.substring(4));
        int three = Integer.parseInt(c.substring(3));
        if (c.matches("1.....")) {
            move(0, d2, high, low);
        } else if (c.matches("2.....")) {
            insert(0, d2, high, low);
        } else if (c.matches("3..000")) {
            remove(d2, d3);
        } else if (c.matches("4....0")) {
            addHole(middle, inner);
        } else if (c.matches("50....")) {
            shift(high - 15, low - 15);
        } else if (c.equals("600000")) {
            turn();
        } else if (c.equals("610000")) {
            mirror();
        } else if (c.matches("700...")) {
            return about(2) >= three;
        } else if (c.matches("8.....")) {
            return point(middle, inner) == c.charAt(5) - '0';
        } else if (c.matches("900...")) {
            return about(4) <= three;
        } else {
            return false;
        }
        return true;
    }

    int simulate(long seed, int m) {
        argument(m >= 1 && m <= 60);
        Oracle copy = new Oracle();
        copy.rings = copy(rings);
        long x = seed;
        int possible = 0;
        for (int i = 0; i < m; i++) {
            x = x * 6364136223846793005L + 1442695040888963407L;
            int r = (int) (x >>> 33);
            List<List<int[]>> then = copy.nudged(r / 4 % rings.get(0).size(), r % 4);
            if (broken(then) == 0) {
                possible++;
                copy.rings = then;
            }
        }
        return 1000 * possible + area(copy.rings);
    }

    // ---- save slots

    int save(int slot) {
        index(slot == 0 || slot == 1);
        slots.set(slot, copy(rings));
        return corners(rings).size();
    }

    int restore(int slot) {
        index(slot == 0 || slot == 1);
        state(slots.get(slot) != null);
        rings = copy(slots.get(slot));
        past.clear();
        return corners(rings).size();
    }

    // ---- helpers

    /** Whether the call throws nothing; made on a copy without a past. */
    boolean can(java.util.function.ToIntFunction<Oracle> call) {
        Oracle copy = new Oracle();
        copy.rings = copy(rings);
        return !Check.answerOf(() -> call.applyAsInt(copy)).startsWith("java");
    }

    private static void index(boolean good) {
        if (!good) {
            throw new IndexOutOfBoundsException();
        }
    }

    private static void argument(boolean good) {
        if (!good) {
            throw new IllegalArgumentException();
        }
    }

    private static void state(boolean good) {
        if (!good) {
            throw new IllegalStateException();
        }
    }

    private int[] at(int r, int k) {
        index(r >= 0 && r < rings.size() && k >= 0 && k < rings.get(r).size());
        return rings.get(r).get(k);
    }

    private int accept(List<List<int[]>> then) {
        state(broken(then) == 0);
        past.addLast(copy(rings));
        if (past.size() > 14) {
            past.removeFirst();
        }
        rings = then;
        return area(rings);
    }

    private int acceptWhole(List<List<int[]>> then) {
        accept(then);
        return corners(rings).stream().mapToInt(c -> c[0]).max().getAsInt();
    }

    private List<List<int[]>> nudged(int k, int d) {
        List<List<int[]>> then = copy(rings);
        int[] c = then.get(0).get(k);
        c[d % 2] += d < 2 ? 1 : -1;
        return then;
    }

    private static List<List<int[]>> copy(List<List<int[]>> rings) {
        List<List<int[]>> all = new ArrayList<>();
        for (List<int[]> ring : rings) {
            List<int[]> corners = new ArrayList<>();
            for (int[] c : ring) {
                corners.add(c.clone());
            }
            all.add(corners);
        }
        return all;
    }

    private static List<int[]> corners(List<List<int[]>> rings) {
        List<int[]> all = new ArrayList<>();
        rings.forEach(all::addAll);
        return all;
    }

    private static int[][] side(List<int[]> ring, int k) {
        return new int[][] {ring.get(k), ring.get((k + 1) % ring.size())};
    }

    private static List<int[][]> sides(List<List<int[]>> rings) {
        List<int[][]> all = new ArrayList<>();
        for (List<int[]> ring : rings) {
            for (int k = 0; k < ring.size(); k++) {
                all.add(side(ring, k));
            }
        }
        return all;
    }

    private static int sum(List<int[]> ring) {
        int sum = 0;
        for (int k = 0; k < ring.size(); k++) {
            int[][] s = side(ring, k);
            sum += s[0][0] * s[1][1] - s[1][0] * s[0][1];
        }
        return sum;
    }

    private static int area(List<List<int[]>> rings) {
        int area = 2 * Math.abs(sum(rings.get(0)));
        for (List<int[]> ring : rings) {
            area -= Math.abs(sum(ring));
        }
        return area;
    }

    private int count(int place) {
        int count = 0;
        for (int p = 0; p < 256; p++) {
            count += point(p / 16, p % 16) == place ? 1 : 0;
        }
        return count;
    }

    private static int pointsOn(int[][] s) {
        int count = 0;
        for (int p = 0; p < 256; p++) {
            int[] q = {p / 16, p % 16};
            count += common(s, new int[][] {q, q}).equals("end") ? 1 : 0;
        }
        return count;
    }

    private static int kind(List<int[]> ring, int k) {
        int[] a = ring.get((k + ring.size() - 1) % ring.size());
        int[] b = ring.get(k);
        int[] c = ring.get((k + 1) % ring.size());
        int bend = (b[0] - a[0]) * (c[1] - b[1]) - (b[1] - a[1]) * (c[0] - b[0]);
        return Integer.signum(bend) * Integer.signum(sum(ring));
    }

    /** By the angle under which the sides are seen from the point, which is on none of them. */
    private static boolean inRing(List<int[]> ring, double x, double y) {
        double angle = 0;
        for (int k = 0; k < ring.size(); k++) {
            int[][] s = side(ring, k);
            double ax = s[0][0] - x;
            double ay = s[0][1] - y;
            double bx = s[1][0] - x;
            double by = s[1][1] - y;
            angle += Math.atan2(ax * by - ay * bx, ax * bx + ay * by);
        }
        return Math.abs(angle) > Math.PI;
    }

    /** "none", "cross" (one point, an end of neither), "end" (one point, an end of one), "many". */
    static String common(int[][] s, int[][] t) {
        long ux = s[1][0] - s[0][0];
        long uy = s[1][1] - s[0][1];
        long vx = t[1][0] - t[0][0];
        long vy = t[1][1] - t[0][1];
        long wx = t[0][0] - s[0][0];
        long wy = t[0][1] - s[0][1];
        long det = ux * vy - uy * vx;
        if (det != 0) {
            long p = (wx * vy - wy * vx) * Long.signum(det);
            long q = (wx * uy - wy * ux) * Long.signum(det);
            long whole = Math.abs(det);
            if (p < 0 || p > whole || q < 0 || q > whole) {
                return "none";
            }
            return p > 0 && p < whole && q > 0 && q < whole ? "cross" : "end";
        }
        if (wx * uy != wy * ux || wx * vy != wy * vx) {
            return "none";
        }
        Comparator<int[]> order = Comparator.comparingInt((int[] c) -> c[0]).thenComparingInt(c -> c[1]);
        int[] sLow = order.compare(s[0], s[1]) <= 0 ? s[0] : s[1];
        int[] sHigh = sLow == s[0] ? s[1] : s[0];
        int[] tLow = order.compare(t[0], t[1]) <= 0 ? t[0] : t[1];
        int[] tHigh = tLow == t[0] ? t[1] : t[0];
        int[] low = order.compare(sLow, tLow) >= 0 ? sLow : tLow;
        int[] high = order.compare(sHigh, tHigh) <= 0 ? sHigh : tHigh;
        int order2 = order.compare(low, high);
        return order2 > 0 ? "none" : order2 == 0 ? "end" : "many";
    }

    static int broken(List<List<int[]>> rings) {
        for (int[] c : corners(rings)) {
            if (c[0] < 0 || c[0] > 15 || c[1] < 0 || c[1] > 15) {
                return 1;
            }
        }
        List<int[][]> sides = sides(rings);
        boolean cross = false;
        boolean touch = false;
        for (int[][] s : sides) {
            if (Arrays.equals(s[0], s[1])) {
                return 2;
            }
            for (int[][] t : sides) {
                if (s != t) {
                    String common = common(s, t);
                    boolean neighbors = s[0] == t[1] || s[1] == t[0];
                    cross |= common.equals("cross");
                    touch |= common.equals("many") || common.equals("end") && !neighbors;
                }
            }
        }
        if (cross || touch) {
            return cross ? 3 : 4;
        }
        for (List<int[]> hole : rings.subList(1, rings.size())) {
            for (int[] c : hole) {
                for (List<int[]> other : rings) {
                    if (other != hole && inRing(other, c[0], c[1]) != (other == rings.get(0))) {
                        return 5;
                    }
                }
            }
        }
        return 0;
    }

    private boolean see(int[] a, int[] b) {
        if (a == b) {
            return false;
        }
        int[][] line = {a, b};
        for (int[][] s : sides(rings)) {
            String common = common(line, s);
            boolean atEnd = s[0] == a || s[0] == b || s[1] == a || s[1] == b;
            if (common.equals("many") || common.equals("cross") || common.equals("end") && !atEnd) {
                return false;
            }
        }
        double x = (a[0] + b[0]) / 2.0;
        double y = (a[1] + b[1]) / 2.0;
        boolean in = inRing(rings.get(0), x, y);
        for (List<int[]> hole : rings.subList(1, rings.size())) {
            in &= !inRing(hole, x, y);
        }
        return in;
    }

    private int seen(int[] a) {
        int count = 0;
        for (int[] b : corners(rings)) {
            count += see(a, b) ? 1 : 0;
        }
        return count;
    }

    private static int hull(List<int[]> outline) {
        List<int[]> sorted = new ArrayList<>(outline);
        sorted.sort(Comparator.comparingInt((int[] c) -> c[0]).thenComparingInt(c -> c[1]));
        List<int[]> hull = new ArrayList<>();
        for (int way = 0; way < 2; way++) {
            List<int[]> chain = new ArrayList<>();
            for (int[] c : sorted) {
                while (chain.size() >= 2 && sum(Arrays.asList(chain.get(chain.size() - 2), chain.get(chain.size() - 1), c)) <= 0) {
                    chain.remove(chain.size() - 1);
                }
                chain.add(c);
            }
            chain.remove(chain.size() - 1);
            hull.addAll(chain);
            java.util.Collections.reverse(sorted);
        }
        return Math.abs(sum(hull));
    }
}
