/** A figure on squared paper, with holes. What each call promises stands in the project's document. */
public final class SquaredPaper {
    public static final int NONE = -9;

    private static final int LAST = 15;
    private static final int MAX_RINGS = 4;
    private static final int MIN_SIZE = 3;
    private static final int MAX_SIZE = 10;
    private static final int MAX_CORNERS = MAX_RINGS * MAX_SIZE;
    private static final int MAX_TEXT = 90;
    private static final int MAX_PAST = 14;
    private static final int SLOTS = 2;
    private static final int MAX_COMMANDS = 3;
    private static final int MAX_MOVES = 60;
    private static final int DIRECTIONS = 4;
    private static final int GROUP = 1000000;

    private static final int OUTSIDE = 0;
    private static final int ON_BORDER = 1;
    private static final int INSIDE = 2;
    private static final int IN_HOLE = 3;

    private final Figure figure;
    private final Figure draft;
    private final Past past;
    private final Figure[] slots;
    private final boolean[] saved;
    private final Text text;
    private final int[] ways;

    public SquaredPaper() {
        figure = new Figure();
        draft = new Figure();
        past = new Past();
        slots = new Figure[SLOTS];
        for (int i = 0; i < SLOTS; i++) {
            slots[i] = new Figure();
        }
        saved = new boolean[SLOTS];
        text = new Text();
        ways = new int[MAX_SIZE * MAX_SIZE];
        figure.openRing();
        figure.addCorner(0, 0);
        figure.addCorner(4, 0);
        figure.addCorner(4, 4);
        figure.addCorner(0, 4);
    }

    // ---- text

    public int append(int c) throws IllegalArgumentException, IllegalStateException {
        if (!inRange(c, 0, 255)) {
            throw new IllegalArgumentException("the character is not 0 to 255");
        }
        if (text.length >= MAX_TEXT) {
            throw new IllegalStateException("the text is full");
        }
        text.add(c);
        return text.length;
    }

    public int clearText() {
        int before = text.length;
        text.length = 0;
        return before;
    }

    public int errorPosition() {
        return text.readInto(draft);
    }

    public int load() throws IllegalStateException {
        if (text.readInto(draft) != NONE) {
            throw new IllegalStateException("the text is not a figure");
        }
        figure.copyFrom(draft);
        past.forgetAll();
        for (int i = 0; i < SLOTS; i++) {
            saved[i] = false;
        }
        return figure.rings;
    }

    // ---- the figure

    public int about(int what) throws IllegalArgumentException {
        switch (what) {
            case 0: return figure.rings;
            case 1: return figure.corners;
            case 2: return Measure.area(figure);
            case 3: return Measure.border(figure);
            case 4: return Measure.inside(figure);
            case 5: return Measure.outlineCorners(figure, 1);
            case 6: return Measure.outlineCorners(figure, -1);
            case 7: return Sight.ears(figure);
            case 8: return Measure.hull(figure);
            case 9: return Sight.pairs(figure);
            default: throw new IllegalArgumentException("what is not 0 to 9");
        }
    }

    public int ring(int r, int what) throws IndexOutOfBoundsException, IllegalArgumentException {
        checkRing(r);
        switch (what) {
            case 0: return figure.sizeOf(r);
            case 1: return Measure.ringArea(figure, r);
            case 2: return Measure.ringSum(figure, r) > 0 ? 1 : 0;
            case 3: return Measure.ringBorder(figure, r);
            case 4: return Measure.longestSide(figure, r) - figure.firstOf(r);
            case 5: return figure.squareOfSide(Measure.longestSide(figure, r));
            default: throw new IllegalArgumentException("what is not 0 to 5");
        }
    }

    public int corner(int r, int k, int what) throws IndexOutOfBoundsException, IllegalArgumentException {
        checkCorner(r, k);
        int c = figure.at(r, k);
        switch (what) {
            case 0: return figure.xOf(c);
            case 1: return figure.yOf(c);
            case 2: return Measure.kind(figure, r, k);
            case 3: return Sight.seenFrom(figure, c);
            case 4: return Math.abs(figure.bendAt(r, k));
            case 5: return figure.stepsOfSide(c);
            default: throw new IllegalArgumentException("what is not 0 to 5");
        }
    }

    public int point(int x, int y) throws IllegalArgumentException {
        if (!inRange(x, 0, LAST) || !inRange(y, 0, LAST)) {
            throw new IllegalArgumentException("the point is not on the paper");
        }
        return figure.placeOf(x, y);
    }

    public boolean sees(int r, int k, int s, int m) throws IndexOutOfBoundsException {
        checkCorner(r, k);
        checkCorner(s, m);
        return Sight.between(figure, figure.at(r, k), figure.at(s, m));
    }

    // ---- actions

    public int move(int r, int k, int x, int y) throws IndexOutOfBoundsException, IllegalStateException {
        checkCorner(r, k);
        draft.copyFrom(figure);
        if (!Change.movedCorner(draft, r, k, x, y)) {
            throw new IllegalStateException("a rule would not hold");
        }
        keepDraft();
        return Measure.area(figure);
    }

    public int insert(int r, int k, int x, int y) throws IndexOutOfBoundsException, IllegalStateException {
        checkCorner(r, k);
        draft.copyFrom(figure);
        if (!Change.addedCorner(draft, r, k, x, y)) {
            throw new IllegalStateException("the ring is full, or a rule would not hold");
        }
        keepDraft();
        return Measure.area(figure);
    }

    public int remove(int r, int k) throws IndexOutOfBoundsException, IllegalStateException {
        checkCorner(r, k);
        draft.copyFrom(figure);
        if (!Change.lostCorner(draft, r, k)) {
            throw new IllegalStateException("the ring has 3 corners, or a rule would not hold");
        }
        keepDraft();
        return Measure.area(figure);
    }

    public int addHole(int x, int y) throws IllegalArgumentException, IllegalStateException {
        if (!inRange(x, 0, LAST - 1) || !inRange(y, 0, LAST - 1)) {
            throw new IllegalArgumentException("x or y is not 0 to 14");
        }
        draft.copyFrom(figure);
        if (!Change.addedHole(draft, x, y)) {
            throw new IllegalStateException("there are 4 rings, or a rule would not hold");
        }
        keepDraft();
        return figure.rings - 1;
    }

    public int dropHole(int r) throws IndexOutOfBoundsException, IllegalStateException {
        checkRing(r);
        if (r == 0) {
            throw new IllegalStateException("the outline is no hole");
        }
        draft.copyFrom(figure);
        draft.dropRing(r);
        keepDraft();
        return Measure.area(figure);
    }

    public int shift(int dx, int dy) throws IllegalArgumentException, IllegalStateException {
        if (!inRange(dx, -LAST, LAST) || !inRange(dy, -LAST, LAST)) {
            throw new IllegalArgumentException("dx or dy is not -15 to 15");
        }
        draft.copyFrom(figure);
        if (!Change.shifted(draft, dx, dy)) {
            throw new IllegalStateException("a corner would leave the paper");
        }
        keepDraft();
        return Measure.greatestX(figure);
    }

    public int turn() {
        draft.copyFrom(figure);
        draft.turnQuarter();
        keepDraft();
        return Measure.greatestX(figure);
    }

    public int mirror() {
        draft.copyFrom(figure);
        draft.mirrorAll();
        keepDraft();
        return Measure.greatestX(figure);
    }

    public int undo() throws IllegalStateException {
        if (past.count == 0) {
            throw new IllegalStateException("no state is remembered");
        }
        past.takeBackInto(figure);
        return past.count;
    }

    // ---- what would be

    public int whyNot(int r, int k, int x, int y) throws IndexOutOfBoundsException {
        checkCorner(r, k);
        draft.copyFrom(figure);
        draft.place(draft.at(r, k), x, y);
        return Rules.firstBroken(draft);
    }

    public int cut(int k) throws IndexOutOfBoundsException {
        checkCorner(0, k);
        return Sight.isEar(figure, k) ? Math.abs(figure.bendAt(0, k)) : NONE;
    }

    public int bestMove() {
        int best = NONE;
        int bestArea = NONE;
        for (int k = 0; k < figure.sizeOf(0); k++) {
            for (int d = 0; d < DIRECTIONS; d++) {
                draft.copyFrom(figure);
                int area = Change.nudged(draft, k, d) ? Measure.area(draft) : NONE;
                if (area > bestArea) {
                    bestArea = area;
                    best = 10 * k + d;
                }
            }
        }
        return best;
    }

    public int inRow(int y, boolean border) throws IllegalArgumentException {
        if (!inRange(y, 0, LAST)) {
            throw new IllegalArgumentException("the row is not on the paper");
        }
        int count = 0;
        for (int x = 0; x <= LAST; x++) {
            int place = figure.placeOf(x, y);
            if (place == INSIDE || (border && place == ON_BORDER)) {
                count++;
            }
        }
        return count;
    }

    public int cuttings() {
        if (figure.rings > 1 || Measure.outlineCorners(figure, 0) > 0) {
            return NONE;
        }
        return Sight.triangulations(figure, ways);
    }

    // ---- scripts, simulations

    public int runScript(int n, long script) throws IllegalArgumentException {
        if (!inRange(n, 1, MAX_COMMANDS)) {
            throw new IllegalArgumentException("n is not 1 to 3");
        }
        long unit = 1;
        for (int i = 1; i < n; i++) {
            unit *= GROUP;
        }
        if (script < 0 || script / unit >= GROUP) {
            throw new IllegalArgumentException("the script is negative or too long");
        }
        draft.copyFrom(figure);
        for (int i = 0; i < n && unit > 0; i++) {
            if (!Script.succeeds(draft, (int) (script / unit % GROUP))) {
                return i;
            }
            unit /= GROUP;
        }
        return NONE;
    }

    public int simulate(long seed, int m) throws IllegalArgumentException {
        if (!inRange(m, 1, MAX_MOVES)) {
            throw new IllegalArgumentException("m is not 1 to 60");
        }
        draft.copyFrom(figure);
        int size = draft.sizeOf(0);
        int possible = 0;
        long x = seed;
        for (int i = 0; i < m && size > 0; i++) {
            x = x * 6364136223846793005L + 1442695040888963407L;
            int r = (int) (x >>> 33);
            if (Change.nudged(draft, r / DIRECTIONS % size, r % DIRECTIONS)) {
                possible++;
            }
        }
        return 1000 * possible + Measure.area(draft);
    }

    // ---- save slots

    public int save(int slot) throws IndexOutOfBoundsException {
        checkSlot(slot);
        slots[slot].copyFrom(figure);
        saved[slot] = true;
        return figure.corners;
    }

    public int restore(int slot) throws IndexOutOfBoundsException, IllegalStateException {
        checkSlot(slot);
        if (!saved[slot]) {
            throw new IllegalStateException("nothing has been saved in the slot");
        }
        figure.copyFrom(slots[slot]);
        past.forgetAll();
        return figure.corners;
    }

    // ---- helpers of the face

    private void keepDraft() {
        past.remember(figure);
        figure.copyFrom(draft);
    }

    private void checkRing(int r) throws IndexOutOfBoundsException {
        if (!figure.hasRing(r)) {
            throw new IndexOutOfBoundsException("there is no such ring");
        }
    }

    private void checkCorner(int r, int k) throws IndexOutOfBoundsException {
        if (!figure.hasCorner(r, k)) {
            throw new IndexOutOfBoundsException("there is no such ring or corner");
        }
    }

    private static void checkSlot(int slot) throws IndexOutOfBoundsException {
        if (!inRange(slot, 0, SLOTS - 1)) {
            throw new IndexOutOfBoundsException("there is no such save slot");
        }
    }

    private static boolean inRange(int value, int low, int high) {
        return low <= value && value <= high;
    }

    /**
     * The rings, told by their corners. The corners of all rings have one numbering (c), the rings one behind
     * the other; a side has the number of the corner at which it begins. The rules may be broken (see Rules).
     */
    private static final class Figure {
        private int rings;
        private int corners;
        private final int[] sizes;
        private final int[] xs;
        private final int[] ys;
        private final int[] next;

        Figure() {
            sizes = new int[MAX_RINGS];
            xs = new int[MAX_CORNERS];
            ys = new int[MAX_CORNERS];
            next = new int[MAX_CORNERS];
        }

        void copyFrom(Figure other) {
            rings = other.rings;
            corners = other.corners;
            System.arraycopy(other.sizes, 0, sizes, 0, MAX_RINGS);
            System.arraycopy(other.xs, 0, xs, 0, MAX_CORNERS);
            System.arraycopy(other.ys, 0, ys, 0, MAX_CORNERS);
            System.arraycopy(other.next, 0, next, 0, MAX_CORNERS);
        }

        boolean hasRing(int r) {
            return r >= 0 && r < rings;
        }

        boolean hasCorner(int r, int k) {
            return hasRing(r) && k >= 0 && k < sizes[r];
        }

        int sizeOf(int r) {
            return r >= 0 && r < rings ? sizes[r] : 0;
        }

        int firstOf(int r) {
            int first = 0;
            for (int i = 0; i < r && i < rings; i++) {
                first += sizes[i];
            }
            return first;
        }

        int at(int r, int k) {
            return firstOf(r) + k;
        }

        int xOf(int c) {
            return c >= 0 && c < corners ? xs[c] : 0;
        }

        int yOf(int c) {
            return c >= 0 && c < corners ? ys[c] : 0;
        }

        int nextOf(int c) {
            return c >= 0 && c < corners ? next[c] : 0;
        }

        int priorOf(int r, int k) {
            return firstOf(r) + (k > 0 ? k : sizeOf(r)) - 1;
        }

        // ---- changes

        void clear() {
            rings = 0;
            corners = 0;
        }

        void openRing() {
            if (rings < MAX_RINGS) {
                sizes[rings] = 0;
                rings++;
            }
        }

        void addCorner(int x, int y) {
            putIn(rings - 1, sizeOf(rings - 1), x, y);
        }

        void place(int c, int x, int y) {
            if (c >= 0 && c < corners) {
                xs[c] = x;
                ys[c] = y;
            }
        }

        void putIn(int r, int k, int x, int y) {
            if (!hasRing(r) || k < 0 || k > sizes[r] || sizes[r] >= MAX_SIZE || corners >= MAX_CORNERS) {
                return;
            }
            int spot = at(r, k);
            for (int c = corners; c > spot; c--) {
                xs[c] = xs[c - 1];
                ys[c] = ys[c - 1];
            }
            sizes[r]++;
            corners++;
            place(spot, x, y);
            relink();
        }

        void takeOut(int r, int k) {
            if (!hasCorner(r, k)) {
                return;
            }
            closeGap(at(r, k), 1);
            sizes[r]--;
            relink();
        }

        void dropRing(int r) {
            if (!hasRing(r)) {
                return;
            }
            closeGap(firstOf(r), sizes[r]);
            for (int i = r; i + 1 < rings; i++) {
                sizes[i] = sizes[i + 1];
            }
            rings--;
            relink();
        }

        private void closeGap(int from, int count) {
            for (int c = from; c + count < corners; c++) {
                xs[c] = xs[c + count];
                ys[c] = ys[c + count];
            }
            corners -= count;
        }

        private void relink() {
            int first = 0;
            for (int r = 0; r < rings; r++) {
                int end = first + sizes[r];
                for (int c = first; c < end; c++) {
                    next[c] = c + 1 < end ? c + 1 : first;
                }
                first = end;
            }
        }

        void shiftAll(int dx, int dy) {
            for (int c = 0; c < corners; c++) {
                xs[c] += dx;
                ys[c] += dy;
            }
        }

        void turnQuarter() {
            for (int c = 0; c < corners; c++) {
                int x = xs[c];
                xs[c] = LAST - ys[c];
                ys[c] = x;
            }
        }

        void mirrorAll() {
            for (int c = 0; c < corners; c++) {
                xs[c] = LAST - xs[c];
            }
        }

        // ---- lines and points

        /** Above 0 if the way from a over b to c turns left; without sign the doubled area of their triangle. */
        int bend(int a, int b, int c) {
            if (a < 0 || b < 0 || c < 0 || a >= corners || b >= corners || c >= corners) {
                return 0;
            }
            return (xs[b] - xs[a]) * (ys[c] - ys[b]) - (ys[b] - ys[a]) * (xs[c] - xs[b]);
        }

        int bendAt(int r, int k) {
            int c = at(r, k);
            return bend(priorOf(r, k), c, nextOf(c));
        }

        boolean linesCross(int a, int b, int c, int d) {
            return bend(a, b, c) * bend(a, b, d) < 0 && bend(c, d, a) * bend(c, d, b) < 0;
        }

        boolean onLine(int x, int y, int a, int b) {
            if (a < 0 || b < 0 || a >= corners || b >= corners) {
                return false;
            }
            if ((xs[b] - xs[a]) * (y - ys[a]) != (ys[b] - ys[a]) * (x - xs[a])) {
                return false;
            }
            return Math.min(xs[a], xs[b]) <= x && x <= Math.max(xs[a], xs[b])
                && Math.min(ys[a], ys[b]) <= y && y <= Math.max(ys[a], ys[b]);
        }

        boolean cornerOnLine(int c, int a, int b) {
            return c != a && c != b && onLine(xOf(c), yOf(c), a, b);
        }

        /** Takes doubled coordinates, as the middle of a line may lie between the points of the paper. */
        boolean surrounds(int r, int x2, int y2) {
            boolean odd = false;
            int first = firstOf(r);
            int end = first + sizeOf(r);
            for (int c = first; c < end; c++) {
                if (passesRightOf(c, x2, y2)) {
                    odd = !odd;
                }
            }
            return odd;
        }

        private boolean passesRightOf(int c, int x2, int y2) {
            if (c < 0 || c >= corners || next[c] < 0 || next[c] >= corners) {
                return false;
            }
            int ax = 2 * xs[c];
            int ay = 2 * ys[c];
            int bx = 2 * xs[next[c]];
            int by = 2 * ys[next[c]];
            if ((ay > y2) == (by > y2)) {
                return false;
            }
            return ((bx - ax) * (y2 - ay) > (x2 - ax) * (by - ay)) == (by > ay);
        }

        boolean inSomeHole(int x2, int y2) {
            for (int r = 1; r < rings; r++) {
                if (surrounds(r, x2, y2)) {
                    return true;
                }
            }
            return false;
        }

        int placeOf(int x, int y) {
            for (int c = 0; c < corners; c++) {
                if (onLine(x, y, c, nextOf(c))) {
                    return ON_BORDER;
                }
            }
            if (!surrounds(0, 2 * x, 2 * y)) {
                return OUTSIDE;
            }
            return inSomeHole(2 * x, 2 * y) ? IN_HOLE : INSIDE;
        }

        int squareOfSide(int c) {
            int dx = xOf(nextOf(c)) - xOf(c);
            int dy = yOf(nextOf(c)) - yOf(c);
            return dx * dx + dy * dy;
        }

        /** The greatest common divisor of the side's width and height: so many points of the paper lie on it. */
        int stepsOfSide(int c) {
            int dx = xOf(nextOf(c)) - xOf(c);
            int dy = yOf(nextOf(c)) - yOf(c);
            for (int steps = LAST; steps > 1; steps--) {
                if (dx % steps == 0 && dy % steps == 0) {
                    return steps;
                }
            }
            return 1;
        }
    }

    /** The five rules of the paper. */
    private static final class Rules {
        /** Each test needs those ahead of it: the products stay small and lines have a length. */
        static int firstBroken(Figure f) {
            if (leavesPaper(f)) {
                return 1;
            }
            if (hasEmptySide(f)) {
                return 2;
            }
            if (hasCrossing(f)) {
                return 3;
            }
            if (hasTouching(f)) {
                return 4;
            }
            return hasLostHole(f) ? 5 : 0;
        }

        static boolean leavesPaper(Figure f) {
            for (int c = 0; c < f.corners; c++) {
                if (!inRange(f.xOf(c), 0, LAST) || !inRange(f.yOf(c), 0, LAST)) {
                    return true;
                }
            }
            return false;
        }

        private static boolean hasEmptySide(Figure f) {
            for (int c = 0; c < f.corners; c++) {
                if (f.squareOfSide(c) == 0) {
                    return true;
                }
            }
            return false;
        }

        private static boolean hasCrossing(Figure f) {
            for (int a = 0; a < f.corners; a++) {
                int end = f.nextOf(a);
                for (int b = 0; b < a; b++) {
                    if (f.linesCross(a, end, b, f.nextOf(b))) {
                        return true;
                    }
                }
            }
            return false;
        }

        /** Sides that do not cross have a wrong point in common just if a corner is on a side that it does not end. */
        private static boolean hasTouching(Figure f) {
            for (int side = 0; side < f.corners; side++) {
                int end = f.nextOf(side);
                for (int c = 0; c < f.corners; c++) {
                    if (f.cornerOnLine(c, side, end)) {
                        return true;
                    }
                }
            }
            return false;
        }

        /** The first corner stands for its ring: rings that do not meet lie on one side of each other as a whole. */
        private static boolean hasLostHole(Figure f) {
            for (int r = 1; r < f.rings; r++) {
                int c = f.firstOf(r);
                for (int around = 0; around < f.rings; around++) {
                    boolean in = f.surrounds(around, 2 * f.xOf(c), 2 * f.yOf(c));
                    if (around != r && in != (around == 0)) {
                        return true;
                    }
                }
            }
            return false;
        }
    }

    /** Changes of a figure that may be impossible: they tell so, and what the figure is then is of no use. */
    private static final class Change {
        static boolean movedCorner(Figure f, int r, int k, int x, int y) {
            if (!f.hasCorner(r, k)) {
                return false;
            }
            f.place(f.at(r, k), x, y);
            return Rules.firstBroken(f) == 0;
        }

        static boolean addedCorner(Figure f, int r, int k, int x, int y) {
            if (!f.hasCorner(r, k) || f.sizeOf(r) >= MAX_SIZE) {
                return false;
            }
            f.putIn(r, k + 1, x, y);
            return Rules.firstBroken(f) == 0;
        }

        static boolean lostCorner(Figure f, int r, int k) {
            if (!f.hasCorner(r, k) || f.sizeOf(r) <= MIN_SIZE) {
                return false;
            }
            f.takeOut(r, k);
            return Rules.firstBroken(f) == 0;
        }

        static boolean addedHole(Figure f, int x, int y) {
            if (f.rings >= MAX_RINGS || !inRange(x, 0, LAST - 1) || !inRange(y, 0, LAST - 1)) {
                return false;
            }
            f.openRing();
            f.addCorner(x, y);
            f.addCorner(x + 1, y);
            f.addCorner(x, y + 1);
            return Rules.firstBroken(f) == 0;
        }

        static boolean shifted(Figure f, int dx, int dy) {
            if (!inRange(dx, -LAST, LAST) || !inRange(dy, -LAST, LAST)) {
                return false;
            }
            f.shiftAll(dx, dy);
            return !Rules.leavesPaper(f);
        }

        /** Moves a corner of the outline by 1; unlike the others it leaves the figure as it was if it can't. */
        static boolean nudged(Figure f, int k, int direction) {
            int x = f.xOf(k);
            int y = f.yOf(k);
            int dx = direction == 0 ? 1 : direction == 2 ? -1 : 0;
            int dy = direction == 1 ? 1 : direction == 3 ? -1 : 0;
            if (movedCorner(f, 0, k, x + dx, y + dy)) {
                return true;
            }
            f.place(k, x, y);
            return false;
        }
    }

    /** Numbers of a figure that keeps the rules. */
    private static final class Measure {
        static int ringSum(Figure f, int r) {
            int sum = 0;
            int first = f.firstOf(r);
            for (int c = first; c < first + f.sizeOf(r); c++) {
                sum += product(f, c, f.nextOf(c));
            }
            return sum;
        }

        private static int product(Figure f, int a, int b) {
            return f.xOf(a) * f.yOf(b) - f.xOf(b) * f.yOf(a);
        }

        static int ringArea(Figure f, int r) {
            return Math.abs(ringSum(f, r));
        }

        static int area(Figure f) {
            int area = ringArea(f, 0);
            for (int r = 1; r < f.rings; r++) {
                area -= ringArea(f, r);
            }
            return area;
        }

        static int ringBorder(Figure f, int r) {
            int count = 0;
            int first = f.firstOf(r);
            for (int c = first; c < first + f.sizeOf(r); c++) {
                count += f.stepsOfSide(c);
            }
            return count;
        }

        static int border(Figure f) {
            int count = 0;
            for (int r = 0; r < f.rings; r++) {
                count += ringBorder(f, r);
            }
            return count;
        }

        /** By Pick: a ring's doubled area is twice the points inside it, and those on it, less 2. */
        static int inside(Figure f) {
            int count = (ringArea(f, 0) - ringBorder(f, 0) + 2) / 2;
            for (int r = 1; r < f.rings; r++) {
                count -= (ringArea(f, r) + ringBorder(f, r) + 2) / 2;
            }
            return count;
        }

        /** 1: pointed; -1: hollow; 0: straight. */
        static int kind(Figure f, int r, int k) {
            int bend = f.bendAt(r, k);
            if (bend == 0) {
                return 0;
            }
            return (bend > 0) == (ringSum(f, r) > 0) ? 1 : -1;
        }

        static int outlineCorners(Figure f, int kind) {
            int count = 0;
            for (int k = 0; k < f.sizeOf(0); k++) {
                if (kind(f, 0, k) == kind) {
                    count++;
                }
            }
            return count;
        }

        static int longestSide(Figure f, int r) {
            int first = f.firstOf(r);
            int longest = first;
            for (int c = first; c < first + f.sizeOf(r); c++) {
                if (f.squareOfSide(c) > f.squareOfSide(longest)) {
                    longest = c;
                }
            }
            return longest;
        }

        static int greatestX(Figure f) {
            int greatest = 0;
            for (int c = 0; c < f.corners; c++) {
                greatest = Math.max(greatest, f.xOf(c));
            }
            return greatest;
        }

        static int hull(Figure f) {
            int sum = 0;
            for (int a = 0; a < f.sizeOf(0); a++) {
                for (int b = 0; b < f.sizeOf(0); b++) {
                    if (a != b && isHullSide(f, a, b)) {
                        sum += product(f, a, b);
                    }
                }
            }
            return sum;
        }

        private static boolean isHullSide(Figure f, int a, int b) {
            for (int c = 0; c < f.sizeOf(0); c++) {
                int bend = f.bend(a, b, c);
                if (bend < 0 || (bend == 0 && !f.onLine(f.xOf(c), f.yOf(c), a, b))) {
                    return false;
                }
            }
            return true;
        }
    }

    /** Which corners see each other, in a figure that keeps the rules. */
    private static final class Sight {
        static boolean between(Figure f, int a, int b) {
            if (a == b || f.nextOf(a) == b || f.nextOf(b) == a) {
                return false;
            }
            for (int c = 0; c < f.corners; c++) {
                if (f.cornerOnLine(c, a, b) || f.linesCross(a, b, c, f.nextOf(c))) {
                    return false;
                }
            }
            int x2 = f.xOf(a) + f.xOf(b);
            int y2 = f.yOf(a) + f.yOf(b);
            return f.surrounds(0, x2, y2) && !f.inSomeHole(x2, y2);
        }

        static int seenFrom(Figure f, int a) {
            int count = 0;
            for (int b = 0; b < f.corners; b++) {
                if (between(f, a, b)) {
                    count++;
                }
            }
            return count;
        }

        static int pairs(Figure f) {
            int count = 0;
            for (int a = 0; a < f.corners; a++) {
                for (int b = 0; b < a; b++) {
                    if (between(f, a, b)) {
                        count++;
                    }
                }
            }
            return count;
        }

        static boolean isEar(Figure f, int k) {
            return f.sizeOf(0) > MIN_SIZE && Measure.kind(f, 0, k) == 1
                && between(f, f.priorOf(0, k), f.nextOf(k));
        }

        static int ears(Figure f) {
            int count = 0;
            for (int k = 0; k < f.sizeOf(0); k++) {
                if (isEar(f, k)) {
                    count++;
                }
            }
            return count;
        }

        /** ways[MAX_SIZE * a + b] becomes the number of cuttings of the part from corner a to b, closed by their line. */
        static int triangulations(Figure f, int[] ways) {
            int size = f.sizeOf(0);
            if (size < MIN_SIZE || size > MAX_SIZE || ways.length < MAX_SIZE * MAX_SIZE) {
                return NONE;
            }
            for (int span = 1; span < size; span++) {
                for (int a = 0; a + span < size; a++) {
                    ways[MAX_SIZE * a + a + span] = span == 1 ? 1 : waysOfPart(f, ways, a, a + span);
                }
            }
            return ways[size - 1];
        }

        private static int waysOfPart(Figure f, int[] ways, int a, int b) {
            boolean isSide = f.nextOf(b) == a;
            if (!isSide && !between(f, a, b)) {
                return 0;
            }
            int sum = 0;
            for (int top = a + 1; top < b; top++) {
                sum += ways[MAX_SIZE * a + top] * ways[MAX_SIZE * top + b];
            }
            return sum;
        }
    }

    /** The commands of a script. */
    private static final class Script {
        /** Makes the command of six digits on the figure; what the figure is after a failure is of no use. */
        static boolean succeeds(Figure f, int group) {
            int second = group / 10000 % 10;
            int third = group / 1000 % 10;
            int x = group / 100 % 100;
            int y = group % 100;
            switch (group / 100000) {
                case 1: return Change.movedCorner(f, 0, second, x, y);
                case 2: return Change.addedCorner(f, 0, second, x, y);
                case 3: return group % 1000 == 0 && Change.lostCorner(f, second, third);
                case 4: return group % 10 == 0 && Change.addedHole(f, group / 1000 % 100, group / 10 % 100);
                case 5: return second == 0 && Change.shifted(f, x - LAST, y - LAST);
                case 6: return group % 10000 == 0 && turnsOrMirrors(f, second);
                case 7: return second == 0 && third == 0 && Measure.area(f) >= group % 1000;
                case 8: return isAt(f, group / 1000 % 100, group / 10 % 100, group % 10);
                case 9: return second == 0 && third == 0 && Measure.inside(f) <= group % 1000;
                default: return false;
            }
        }

        private static boolean turnsOrMirrors(Figure f, int which) {
            if (which == 0) {
                f.turnQuarter();
            } else if (which == 1) {
                f.mirrorAll();
            }
            return which == 0 || which == 1;
        }

        private static boolean isAt(Figure f, int x, int y, int place) {
            return inRange(x, 0, LAST) && inRange(y, 0, LAST) && f.placeOf(x, y) == place;
        }
    }

    /** The states ahead of the last actions, the oldest first. */
    private static final class Past {
        private final Figure[] states;
        private int oldest;
        private int count;

        Past() {
            states = new Figure[MAX_PAST];
            for (int i = 0; i < MAX_PAST; i++) {
                states[i] = new Figure();
            }
        }

        void forgetAll() {
            oldest = 0;
            count = 0;
        }

        void remember(Figure f) {
            states[(oldest + count) % MAX_PAST].copyFrom(f);
            if (count < MAX_PAST) {
                count++;
            } else {
                oldest = (oldest + 1) % MAX_PAST;
            }
        }

        void takeBackInto(Figure f) {
            if (count > 0) {
                count--;
                f.copyFrom(states[(oldest + count) % MAX_PAST]);
            }
        }
    }

    /** The text buffer. */
    private static final class Text {
        private final char[] signs;
        private int length;

        Text() {
            signs = new char[MAX_TEXT];
        }

        void add(int c) {
            if (length < MAX_TEXT) {
                signs[length] = (char) c;
                length++;
            }
        }

        /** Makes the figure of the text in f; returns the error position, or NONE. */
        int readInto(Figure f) {
            f.clear();
            if (length == 0 || signs[0] != 'F') {
                return 0;
            }
            f.openRing();
            int begin = 1;
            for (int i = 1; i < length; i++) {
                int told = i - begin;
                if (signs[i] == '/' && isWhole(told) && f.rings < MAX_RINGS) {
                    if (Rules.firstBroken(f) != 0) {
                        return begin;
                    }
                    f.openRing();
                    begin = i + 1;
                } else if (!isLetter(signs[i]) || told >= 2 * MAX_SIZE) {
                    return i;
                } else if (told % 2 == 1) {
                    f.addCorner(signs[i - 1] - 'a', signs[i] - 'a');
                }
            }
            if (!isWhole(length - begin)) {
                return length;
            }
            return Rules.firstBroken(f) != 0 ? begin : NONE;
        }

        private static boolean isWhole(int told) {
            return told % 2 == 0 && told >= 2 * MIN_SIZE;
        }

        private static boolean isLetter(char sign) {
            return 'a' <= sign && sign <= 'a' + LAST;
        }
    }
}
