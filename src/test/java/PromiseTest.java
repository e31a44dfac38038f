import java.util.ArrayList;
import java.util.List;

/** Each promise of the document by hand: ordinary calls, the edges that it names, wrong calls. */
public final class PromiseTest {
    private static final Class<IllegalArgumentException> ARGUMENT = IllegalArgumentException.class;
    private static final Class<IllegalStateException> STATE = IllegalStateException.class;
    private static final Class<IndexOutOfBoundsException> INDEX = IndexOutOfBoundsException.class;
    private static final int MIN = Integer.MIN_VALUE;
    private static final int MAX = Integer.MAX_VALUE;
    private static final int NONE = SquaredPaper.NONE;

    private static final String NOTCH = Figures.NOTCH;
    private static final String SQUARE = Figures.SQUARE;
    private static final String WHOLE = Figures.WHOLE;
    private static final String TWO_HOLES = Figures.TWO_HOLES;
    private static final String ROUND = Figures.ROUND;

    private final Check check = new Check();

    public static void main(String[] args) {
        PromiseTest test = new PromiseTest();
        test.newObject();
        test.append();
        test.clearText();
        test.errorPosition();
        test.errorPositionOfBadRings();
        test.load();
        test.about();
        test.aboutHull();
        test.ring();
        test.corner();
        test.point();
        test.sees();
        test.move();
        test.moveKeepsOrder();
        test.insert();
        test.remove();
        test.addHole();
        test.dropHole();
        test.shift();
        test.turn();
        test.mirror();
        test.undo();
        test.everyActionIsRemembered();
        test.refusedCallsChangeNothing();
        test.whyNot();
        test.cut();
        test.bestMove();
        test.inRow();
        test.cuttings();
        test.scriptRanges();
        test.scriptMoves();
        test.scriptWholeFigure();
        test.scriptQuestions();
        test.simulate();
        test.save();
        test.restore();
        test.questionsChangeNothing();
        test.check.end();
    }

    // ---- tools

    private static void write(SquaredPaper p, String text) {
        for (int i = 0; i < text.length(); i++) {
            p.append(text.charAt(i));
        }
    }

    /** An error rather than an exception if the text is no figure, as a call behind this may have to be refused. */
    private static SquaredPaper of(String text) {
        SquaredPaper p = new SquaredPaper();
        write(p, text);
        if (p.errorPosition() != NONE) {
            throw new AssertionError("no figure: " + text);
        }
        p.load();
        return p;
    }

    private static String figureOf(SquaredPaper p) {
        StringBuilder out = new StringBuilder("F");
        for (int r = 0; r < p.about(0); r++) {
            out.append(r > 0 ? "/" : "");
            for (int k = 0; k < p.ring(r, 0); k++) {
                out.append((char) ('a' + p.corner(r, k, 0))).append((char) ('a' + p.corner(r, k, 1)));
            }
        }
        return out.toString();
    }

    private void dueFigure(String what, String want, SquaredPaper p) {
        check.same("the figure after " + what, want, figureOf(p));
    }

    private void dueError(String text, int want) {
        SquaredPaper p = new SquaredPaper();
        write(p, text);
        check.due("errorPosition of '" + text + "'", want, p::errorPosition);
    }

    private void dueAll(String what, int[] wants, java.util.function.IntUnaryOperator call) {
        for (int i = 0; i < wants.length; i++) {
            int n = i;
            check.due(what + " " + n, wants[n], () -> call.applyAsInt(n));
        }
    }

    private static int told(boolean b) {
        return b ? 1 : 0;
    }

    // ---- promises 1 to 5

    private void newObject() {
        SquaredPaper p = new SquaredPaper();
        dueFigure("new", SQUARE, p);
        check.due("a new text is empty", 0, p::clearText);
        check.refused("undo of a new object", STATE, p::undo);
        check.refused("restore(0) of a new object", STATE, () -> p.restore(0));
        check.refused("restore(1) of a new object", STATE, () -> p.restore(1));
        check.same("NONE", -9, SquaredPaper.NONE);
    }

    private void append() {
        SquaredPaper p = new SquaredPaper();
        check.due("append(0)", 1, () -> p.append(0));
        check.due("append(255)", 2, () -> p.append(255));
        for (int c : new int[] {-1, 256, MIN, MAX}) {
            check.refused("append(" + c + ")", ARGUMENT, () -> p.append(c));
        }
        for (int i = 3; i <= 90; i++) {
            check.due("append number " + i, i, () -> p.append('a'));
        }
        check.refused("append to a full text", STATE, () -> p.append('a'));
        check.refused("append(256) to a full text", ARGUMENT, () -> p.append(256));
        check.due("the text stays full", 90, p::clearText);
    }

    private void clearText() {
        SquaredPaper p = new SquaredPaper();
        write(p, "Fab");
        check.due("clearText", 3, p::clearText);
        check.due("clearText again", 0, p::clearText);
        check.due("errorPosition then", 0, p::errorPosition);
        check.due("append then", 1, () -> p.append('F'));
    }

    private void errorPosition() {
        dueError("", 0);
        dueError("f", 0);
        dueError("aaeaeeae", 0);
        dueError("F", 1);
        dueError("F/", 1);
        dueError("Fa", 2);
        dueError("Fa/", 2);
        dueError("Faa/", 3);
        dueError("Faaea", 5);
        dueError("Faaeaee", NONE);
        dueError("Faaeaeea", 8);
        dueError("Faaeaeea/", 8);
        dueError(SQUARE, NONE);
        dueError("Faaqa", 3);
        dueError("Faa`a", 3);
        dueError("FAA", 1);
        dueError("F aaeaee", 1);
        dueError("Faaeaee ", 7);
        dueError("Faaeaee\u00e9", 7);
        dueError("Fpaaaappp", NONE);
        dueError(ROUND, NONE);
        dueError(ROUND + "a", 21);
        dueError(ROUND + "/", 22);
        dueError(ROUND + "//", 22);
        dueError("Faapappap/bbdbbd/ffhffh/jjljjl", NONE);
        dueError("Faapappap/bbdbbd/ffhffh/jjljjl/", 30);
        dueError("Faapappap/bbdbbd/ffhffh/", 24);
    }

    private void errorPositionOfBadRings() {
        dueError("Faaeeeaae", 1);
        dueError("Faaeaaa", 1);
        dueError("Faaeeea", NONE);
        dueError("Faaccee", 1);
        dueError("Faaeeeax", 7);
        dueError("Faaeeeaae/", 1);
        dueError("Faaeeeaaex", 9);
        dueError("Faaeeeaae/bbq", 1);
        dueError("Faaeaeeae/bbdbdd", NONE);
        dueError("Faaeaeeae/bbdbde", 10);
        dueError("Faaeaeeae/bbdbde/", 10);
        dueError("Faaeaeeae/bbdbdez", 16);
        dueError("Faaeaeeae/bbdbdea", 17);
        dueError("Faaeaeeae/ffhffh", 10);
        dueError("Fbbebebbe/aapaap", 1);
        dueError("Fbbebeebe/aapaap", 10);
        dueError("Faapappap/bbkbbk/ccdccd", 17);
        dueError("Faapappap/ccdccd/bbkbbk", 17);
        dueError("Faapappap/ccdccd/dcecdd", 17);
        dueError("Faapappap/ccdccd/eefeef/ccdccd/", 30);
        dueError("Faapappap/ccdccd/eefeef/ccdccd", 24);
        dueError("Faaaa", 5);
        dueError("Faaaaeaee", 1);
        dueError("Faagaggdagdag", 1);
    }

    private void load() {
        SquaredPaper p = new SquaredPaper();
        p.save(0);
        p.save(1);
        p.turn();
        check.refused("load of the empty text", STATE, p::load);
        write(p, "Fppapa");
        check.refused("load of a text that is too short", STATE, p::load);
        check.due("restore after a load that threw", 4, () -> p.restore(0));
        p.mirror();
        p.append('a');
        check.due("load", 1, p::load);
        dueFigure("load", "Fppapaa", p);
        check.refused("undo after load", STATE, p::undo);
        check.refused("restore(0) after load", STATE, () -> p.restore(0));
        check.refused("restore(1) after load", STATE, () -> p.restore(1));
        check.due("the text stays", 7, p::clearText);
        write(p, TWO_HOLES);
        check.due("load with holes", 3, p::load);
        dueFigure("load with holes", TWO_HOLES, p);
        check.due("load again", 3, p::load);
        p.turn();
        p.clearText();
        check.refused("load after clearText", STATE, p::load);
        check.due("undo after a load that threw", 0, p::undo);
        dueFigure("undo", TWO_HOLES, p);
    }

    // ---- promises 6 to 10

    private void about() {
        dueAll("about of the square,", new int[] {1, 4, 32, 16, 9, 4, 0, 4, 32, 2}, new SquaredPaper()::about);
        dueAll("about of the notch,", new int[] {1, 8, 80, 44, 19, 6, 2, 4, 128, 8}, of(NOTCH)::about);
        // the holes have doubled areas 9 and 4, 9 and 6 points on them, and 1 and 0 inside
        dueAll("about with two holes,", new int[] {3, 10, 450 - 13, 60 + 15, 196 - 16, 4, 0, 2, 450}, of(TWO_HOLES)::about);
        dueAll("about of a triangle,", new int[] {1, 3, 16, 12, 3, 3, 0, 0, 16, 0}, of("Faaeaae")::about);
        dueAll("about of a ring that goes right,", new int[] {1, 8, 80, 44, 19, 6, 2, 4, 128, 8}, of("Faiciccgcgiiiiaaa")::about);
        dueAll("about of a square with a straight corner,", new int[] {1, 5, 32, 16, 9, 4, 0, 4, 32, 4}, of("Faacaeaeeae")::about);
        SquaredPaper p = new SquaredPaper();
        for (int what : new int[] {-1, 10, MIN, MAX}) {
            check.refused("about(" + what + ")", ARGUMENT, () -> p.about(what));
        }
        // an ear may have a hole in its triangle
        check.due("ears with a hole in the lower half", 4, () -> of("Faapappap/hbjbhd").about(7));
        check.due("pairs that see each other in a convex figure", 35, () -> of(ROUND).about(9));
    }

    private void aboutHull() {
        // the corner (2, 0) lies on a side of the hull, (2, 2) inside it
        check.due("the hull with a corner on its side", 32, () -> of("Faacaeaeeae").about(8));
        check.due("the hull with a corner inside it", 32, () -> of("Faaccea" + "eeae").about(8));
        check.due("the hull of a star", 4 * 15 * 15 - 450, () -> of("Faahfpajhpphjapih").about(8));
        check.due("the hull leaves holes alone", 450, () -> of("Fpaaaappp/bbobbo").about(8));
    }

    private void ring() {
        SquaredPaper p = of(TWO_HOLES);
        dueAll("ring 0,", new int[] {4, 450, 1, 60, 0, 225}, what -> p.ring(0, what));
        dueAll("ring 1,", new int[] {3, 9, 0, 9, 2, 18}, what -> p.ring(1, what));
        dueAll("ring 2,", new int[] {3, 4, 1, 6, 1, 8}, what -> p.ring(2, what));
        p.mirror();
        dueAll("ring 0 mirrored,", new int[] {4, 450, 0, 60, 0, 225}, what -> p.ring(0, what));
        dueAll("ring 2 mirrored,", new int[] {3, 4, 0, 6, 1, 8}, what -> p.ring(2, what));
        for (int r : new int[] {-1, 3, 4, MIN, MAX}) {
            check.refused("ring(" + r + ", 0)", INDEX, () -> p.ring(r, 0));
            check.refused("ring(" + r + ", 6)", INDEX, () -> p.ring(r, 6));
        }
        for (int what : new int[] {-1, 6, MIN, MAX}) {
            check.refused("ring(2, " + what + ")", ARGUMENT, () -> p.ring(2, what));
        }
    }

    private void corner() {
        SquaredPaper p = of(NOTCH);
        dueAll("corner (0, 0),", new int[] {0, 0, 1, 3, 64, 8}, what -> p.corner(0, 0, what));
        dueAll("corner (0, 4),", new int[] {6, 2, -1, 3, 24, 4}, what -> p.corner(0, 4, what));
        dueAll("corner (0, 7),", new int[] {0, 8, 1, 1, 16, 8}, what -> p.corner(0, 7, what));
        SquaredPaper q = of("Faacaeaeeae/bbcbbc");
        dueAll("a straight corner,", new int[] {2, 0, 0, 3, 0, 2}, what -> q.corner(0, 1, what));
        dueAll("a corner of a hole,", new int[] {2, 1, 1, 5, 1, 1}, what -> q.corner(1, 1, what));
        check.due("a hollow corner of a hole that goes right", -1, () -> of("Faapappap/bbbkddkb").corner(1, 2, 2));
        check.due("points on a slanting side", 3, () -> of("Faagdae").corner(0, 0, 5));
        for (int what : new int[] {-1, 6, MIN, MAX}) {
            check.refused("corner(0, 0, " + what + ")", ARGUMENT, () -> p.corner(0, 0, what));
        }
        for (int k : new int[] {-1, 8, 10, MIN, MAX}) {
            check.refused("corner(0, " + k + ", 0)", INDEX, () -> p.corner(0, k, 0));
            check.refused("corner(0, " + k + ", 6)", INDEX, () -> p.corner(0, k, 6));
            check.refused("corner(" + k + ", 0, 0)", INDEX, () -> p.corner(k, 0, 0));
        }
        check.refused("a corner of a hole that does not exist", INDEX, () -> p.corner(1, 0, 0));
        check.refused("corner(1, 3, 0)", INDEX, () -> q.corner(1, 3, 0));
    }

    private void point() {
        SquaredPaper p = of("Faakakkak/cchcch");
        int[][] dues = {{0, 0, 1}, {5, 0, 1}, {10, 10, 1}, {1, 1, 2}, {11, 5, 0}, {15, 15, 0}, {3, 3, 3}, {2, 2, 1},
            {4, 5, 1}, {5, 5, 2}, {4, 4, 3}, {9, 9, 2}, {0, 11, 0}, {8, 2, 2}, {1, 2, 2}, {1, 7, 2}, {0, 10, 1}};
        for (int[] d : dues) {
            check.due("point(" + d[0] + ", " + d[1] + ")", d[2], () -> p.point(d[0], d[1]));
        }
        for (int c : new int[] {-1, 16, MIN, MAX}) {
            check.refused("point(" + c + ", 0)", ARGUMENT, () -> p.point(c, 0));
            check.refused("point(0, " + c + ")", ARGUMENT, () -> p.point(0, c));
        }
        SquaredPaper n = of(NOTCH);
        check.due("a point in the notch", 0, () -> n.point(4, 5));
        check.due("the floor of the notch", 1, () -> n.point(4, 2));
        check.due("a point level with two corners", 2, () -> n.point(1, 2));
    }

    private void sees() {
        SquaredPaper p = of(NOTCH);
        int[][] dues = {{0, 4, 1}, {4, 0, 1}, {0, 5, 1}, {1, 4, 1}, {0, 2, 0}, {0, 3, 0}, {3, 6, 0}, {3, 5, 0}, {2, 7, 0},
            {0, 1, 0}, {0, 7, 0}, {7, 0, 0}, {3, 3, 0}, {2, 4, 1}, {1, 3, 1}, {4, 6, 0}, {7, 4, 0}};
        for (int[] d : dues) {
            check.due("sees(0, " + d[0] + ", 0, " + d[1] + ")", d[2], () -> told(p.sees(0, d[0], 0, d[1])));
        }
        SquaredPaper q = of("Faakakkak/cccfff/hhihhi");
        check.due("a hole is in between", 0, () -> told(q.sees(0, 0, 0, 2)));
        check.due("outline and hole", 1, () -> told(q.sees(0, 0, 1, 0)));
        check.due("the line runs along a side", 0, () -> told(q.sees(0, 0, 1, 2)));
        check.due("two corners of a hole through it", 0, () -> told(of("Faakakkak/cchchhch").sees(1, 0, 1, 2)));
        check.due("two corners of a hole outside it", 1, () -> told(of("Faakakkak/ccgcedci").sees(1, 1, 1, 3)));
        check.due("two holes", 1, () -> told(q.sees(1, 2, 2, 0)));
        check.due("two holes, back", 1, () -> told(q.sees(2, 0, 1, 2)));
        int[][] wrong = {{-1, 0, 0, 0}, {3, 0, 0, 0}, {0, -1, 0, 0}, {0, 4, 0, 0}, {0, 0, -1, 0}, {0, 0, 3, 0}, {0, 0, 0, -1},
            {0, 0, 0, 4}, {1, 3, 0, 0}, {0, 0, 1, 3}, {MIN, 0, 0, 0}, {0, MAX, 0, 0}, {0, 0, MAX, 0}, {0, 0, 0, MIN}, {9, 9, 9, 9}};
        for (int[] w : wrong) {
            check.refused("sees of " + java.util.Arrays.toString(w), INDEX, () -> told(q.sees(w[0], w[1], w[2], w[3])));
        }
    }

    // ---- promises 11 to 19

    private void move() {
        SquaredPaper p = new SquaredPaper();
        check.due("move(0, 2, 15, 15)", 120, () -> p.move(0, 2, 15, 15));
        dueFigure("move", "Faaeappae", p);
        check.due("move to the same place", 120, () -> p.move(0, 2, 15, 15));
        check.refused("a move off the paper", STATE, () -> p.move(0, 2, 16, 15));
        check.refused("a move far off the paper", STATE, () -> p.move(0, 2, MIN, MAX));
        check.refused("a move on another corner", STATE, () -> p.move(0, 2, 0, 0));
        check.refused("a move on a side", STATE, () -> p.move(0, 2, 2, 0));
        check.refused("move of ring 1", INDEX, () -> p.move(1, 0, 3, 3));
        check.refused("move of corner 4", INDEX, () -> p.move(0, 4, 99, 99));
        check.refused("move of corner -1", INDEX, () -> p.move(0, -1, 3, 3));
        check.refused("move of ring -1", INDEX, () -> p.move(-1, 0, 3, 3));
        check.due("only two moves are remembered", 1, p::undo);
    }

    private void moveKeepsOrder() {
        SquaredPaper p = of(TWO_HOLES);
        check.due("move of a hole's corner", 450 - 9 - 4, () -> p.move(1, 2, 5, 8));
        dueFigure("move of a hole's corner", "Faapappap/cccffi/kkmkkm", p);
        check.refused("a hole's corner goes into another hole", STATE, () -> p.move(1, 2, 11, 11));
        check.refused("a hole's corner goes on the outline", STATE, () -> p.move(1, 2, 0, 9));
        check.refused("the outline goes over a hole", STATE, () -> p.move(0, 2, 1, 1));
        check.due("the outline's move takes the area", 450 - 13 - 15, () -> p.move(0, 2, 14, 15));
    }

    private void insert() {
        SquaredPaper p = new SquaredPaper();
        check.due("insert behind the last corner", 32, () -> p.insert(0, 3, 0, 2));
        dueFigure("insert behind the last corner", "Faaeaeeaeac", p);
        check.due("insert behind the first corner", 28, () -> p.insert(0, 0, 2, 1));
        dueFigure("insert behind the first corner", "Faacbeaeeaeac", p);
        check.refused("insert on a corner", STATE, () -> p.insert(0, 0, 0, 0));
        check.refused("insert on the next corner", STATE, () -> p.insert(0, 0, 2, 1));
        check.refused("insert off the paper", STATE, () -> p.insert(0, 0, -1, 0));
        check.refused("insert off the paper by far", STATE, () -> p.insert(0, 0, MAX, MIN));
        check.refused("insert behind corner 6", INDEX, () -> p.insert(0, 6, 1, 1));
        check.refused("insert behind corner -1", INDEX, () -> p.insert(0, -1, 1, 1));
        check.refused("insert in ring 1", INDEX, () -> p.insert(1, 0, -1, 1));
        SquaredPaper r = of(ROUND);
        check.refused("insert in a ring of 10 corners", STATE, () -> r.insert(0, 0, 6, 0));
        check.refused("insert behind corner 10 of 10", INDEX, () -> r.insert(0, 10, 6, 0));
        SquaredPaper h = of(TWO_HOLES);
        check.due("insert in a hole", 450 - 13 - 3, () -> h.insert(1, 0, 1, 3));
        dueFigure("insert in a hole", "Faapappap/ccbdcfff/kkmkkm", h);
        check.due("undo of insert in a hole", 0, h::undo);
        dueFigure("undo of insert in a hole", TWO_HOLES, h);
    }

    private void remove() {
        SquaredPaper p = new SquaredPaper();
        check.due("remove the first corner", 16, () -> p.remove(0, 0));
        dueFigure("remove", "Feaeeae", p);
        for (int k = 0; k < 3; k++) {
            int c = k;
            check.refused("remove of one of 3 corners", STATE, () -> p.remove(0, c));
        }
        check.refused("remove(0, 3)", INDEX, () -> p.remove(0, 3));
        check.refused("remove(0, -1)", INDEX, () -> p.remove(0, -1));
        check.refused("remove(1, 0)", INDEX, () -> p.remove(1, 0));
        check.refused("remove(" + MIN + ", 0)", INDEX, () -> p.remove(MIN, 0));
        SquaredPaper h = of("Faakakkak/bbdbbd/hhjhjjhj");
        check.due("remove in the last hole", 200 - 4 - 4, () -> h.remove(2, 3));
        dueFigure("remove in the last hole", "Faakakkak/bbdbbd/hhjhjj", h);
        check.refused("a side would run through a hole", STATE, () -> h.remove(0, 0));
        check.refused("a hole would be left outside", STATE, () -> of("Faakakkak/hhjhhj").remove(0, 2));
        check.due("remove the last corner", 16, () -> new SquaredPaper().remove(0, 3));
        check.refused("a side would run through a corner", STATE, () -> of("Faaiaiieeai").remove(0, 1));
    }

    private void addHole() {
        SquaredPaper p = of(WHOLE);
        check.due("addHole", 1, () -> p.addHole(1, 1));
        dueFigure("addHole", WHOLE + "/bbcbbc", p);
        check.refused("addHole at the same place", STATE, () -> p.addHole(1, 1));
        check.refused("addHole that touches the outline", STATE, () -> p.addHole(0, 5));
        check.refused("addHole that touches a hole", STATE, () -> p.addHole(2, 1));
        check.refused("addHole that touches the far side", STATE, () -> p.addHole(14, 5));
        check.due("addHole near the far corner", 2, () -> p.addHole(13, 13));
        check.due("addHole beside the first", 3, () -> p.addHole(3, 1));
        check.refused("a fifth ring", STATE, () -> p.addHole(8, 8));
        for (int c : new int[] {-1, 15, MIN, MAX}) {
            check.refused("addHole(" + c + ", 8)", ARGUMENT, () -> p.addHole(c, 8));
            check.refused("addHole(8, " + c + ")", ARGUMENT, () -> p.addHole(8, c));
        }
        check.due("three actions were made", 2, p::undo);
        check.refused("addHole outside the outline", STATE, () -> new SquaredPaper().addHole(8, 8));
        check.refused("addHole inside a hole", STATE, () -> of(WHOLE + "/bbnbbn").addHole(4, 4));
        check.refused("addHole at (0, 0)", STATE, () -> of(WHOLE).addHole(0, 0));
        check.refused("addHole at (14, 14)", STATE, () -> of(WHOLE).addHole(14, 14));
    }

    private void dropHole() {
        SquaredPaper p = of(WHOLE + "/bbcbbc/eehehhfg/kkmkkm");
        check.refused("dropHole(0)", STATE, () -> p.dropHole(0));
        check.refused("dropHole(4)", INDEX, () -> p.dropHole(4));
        check.refused("dropHole(-1)", INDEX, () -> p.dropHole(-1));
        check.due("dropHole(2)", 450 - 1 - 4, () -> p.dropHole(2));
        dueFigure("dropHole(2)", WHOLE + "/bbcbbc/kkmkkm", p);
        check.refused("dropHole(3)", INDEX, () -> p.dropHole(3));
        check.due("dropHole(1)", 446, () -> p.dropHole(1));
        check.due("dropHole(1) again", 450, () -> p.dropHole(1));
        check.refused("dropHole(1) without holes", INDEX, () -> p.dropHole(1));
        check.due("undo", 2, p::undo);
        dueFigure("undo of dropHole", WHOLE + "/kkmkkm", p);
    }

    private void shift() {
        SquaredPaper p = new SquaredPaper();
        check.due("shift(11, 0)", 15, () -> p.shift(11, 0));
        dueFigure("shift(11, 0)", "Flapapele", p);
        check.due("shift(-3, 11)", 12, () -> p.shift(-3, 11));
        dueFigure("shift(-3, 11)", "Filmlmpip", p);
        check.due("shift(0, 0)", 12, () -> p.shift(0, 0));
        check.refused("shift(4, 0)", STATE, () -> p.shift(4, 0));
        check.refused("shift(-9, 0)", STATE, () -> p.shift(-9, 0));
        check.refused("shift(0, 1)", STATE, () -> p.shift(0, 1));
        check.refused("shift(0, -12)", STATE, () -> p.shift(0, -12));
        check.refused("shift(15, -15)", STATE, () -> p.shift(15, -15));
        for (int d : new int[] {-16, 16, MIN, MAX}) {
            check.refused("shift(" + d + ", 0)", ARGUMENT, () -> p.shift(d, 0));
            check.refused("shift(0, " + d + ")", ARGUMENT, () -> p.shift(0, d));
            check.refused("shift(15, " + d + ")", ARGUMENT, () -> p.shift(15, d));
        }
        check.due("shift(-8, -11)", 4, () -> p.shift(-8, -11));
        dueFigure("shift back", SQUARE, p);
        check.due("four shifts are remembered", 3, p::undo);
        SquaredPaper h = of("Faaiaai/bbdbbd");
        check.due("shift with a hole", 15, () -> h.shift(7, 7));
        dueFigure("shift with a hole", "Fhhphhp/iikiik", h);
    }

    private void turn() {
        SquaredPaper p = of("Faaiaad/bbcbbc");
        check.due("turn", 15, p::turn);
        dueFigure("turn", "Fpapima/obocnb", p);
        check.due("turn twice", 15, p::turn);
        dueFigure("turn twice", "Fpphppm/oonoon", p);
        check.due("turn three times", 3, p::turn);
        check.due("turn four times", 8, p::turn);
        dueFigure("turn four times", "Faaiaad/bbcbbc", p);
        check.due("turns are remembered", 3, p::undo);
    }

    private void mirror() {
        SquaredPaper p = of("Faaiaad/bbcbbc");
        check.due("mirror", 15, p::mirror);
        dueFigure("mirror", "Fpahapd/obnboc", p);
        check.due("a mirrored ring goes right", 0, () -> p.ring(0, 2));
        check.due("mirror twice", 8, p::mirror);
        dueFigure("mirror twice", "Faaiaad/bbcbbc", p);
        check.due("mirrors are remembered", 1, p::undo);
    }

    private void undo() {
        SquaredPaper p = new SquaredPaper();
        for (int i = 1; i <= 14; i++) {
            p.move(0, 2, 4, 3 + (i & 1));
        }
        p.move(0, 2, 7, 7);
        p.move(0, 2, 8, 8);
        check.due("undo with 14 remembered", 13, p::undo);
        dueFigure("undo", "Faaeahhae", p);
        for (int left = 12; left >= 0; left--) {
            check.due("undo", left, p::undo);
        }
        dueFigure("all undone", "Faaeaedae", p);
        check.refused("undo of a forgotten state", STATE, p::undo);
        dueFigure("undo that threw", "Faaeaedae", p);
        p.turn();
        check.due("undo is no action", 0, p::undo);
        check.refused("undo again", STATE, p::undo);
    }

    private void everyActionIsRemembered() {
        SquaredPaper p = of(WHOLE);
        List<String> figures = new ArrayList<>();
        for (int i = 0; i < 9; i++) {
            figures.add(figureOf(p));
            act(p, i);
        }
        for (int i = 8; i >= 0; i--) {
            check.due("undo of action " + i, i, p::undo);
            dueFigure("undo of action " + i, figures.get(i), p);
        }
    }

    private static void act(SquaredPaper p, int i) {
        switch (i) {
            case 0: p.addHole(3, 3); break;
            case 1: p.insert(1, 2, 2, 2); break;
            case 2: p.move(0, 2, 14, 14); break;
            case 3: p.addHole(7, 7); break;
            case 4: p.remove(1, 0); break;
            case 5: p.turn(); break;
            case 6: p.dropHole(1); break;
            case 7: p.mirror(); break;
            default: p.shift(0, 0);
        }
    }

    private void refusedCallsChangeNothing() {
        SquaredPaper p = of("Fbbobbo/ccdccd/ffgffg");
        p.save(1);
        p.turn();
        p.mirror();
        String before = figureOf(p);
        String text = "Fbbobbo/ccdccd/ffgffg";
        Check.Call[] calls = {() -> p.move(0, 0, 16, 0), () -> p.move(1, 0, 6, 6), () -> p.move(3, 0, 1, 1),
            () -> p.insert(0, 0, 16, 0), () -> p.insert(2, 1, 5, 5), () -> p.insert(2, 3, 3, 3), () -> p.remove(0, 0),
            () -> p.remove(2, 2), () -> p.remove(2, 3), () -> p.addHole(15, 0), () -> p.addHole(0, 0), () -> p.addHole(2, 1),
            () -> p.dropHole(0), () -> p.dropHole(3), () -> p.shift(15, 15), () -> p.shift(16, 0), () -> p.append(256),
            () -> p.restore(0), () -> p.restore(2), () -> p.save(-1), () -> p.whyNot(0, 3, 0, 0), () -> p.simulate(1, 61),
            () -> p.runScript(4, 0), () -> p.runScript(1, -1), () -> p.inRow(16, true), () -> p.cut(3), () -> p.about(10)};
        for (int i = 0; i < calls.length; i++) {
            if (!Check.answerOf(calls[i]).startsWith("java.lang.I")) {
                check.report("wrong call " + i + " was not refused");
            }
            dueFigure("wrong call " + i, before, p);
        }
        check.due("the text is the same", NONE, p::errorPosition);
        check.due("two states are remembered", 1, p::undo);
        check.due("one state is remembered", 0, p::undo);
        dueFigure("both undone", text, p);
        check.due("the save slot is the same", 9, () -> p.restore(1));
        check.due("the text has its length", text.length(), p::clearText);
    }

    // ---- promises 20 to 24

    private void whyNot() {
        SquaredPaper p = of("Faakakkak/ccdccd/gghggh");
        int[][] dues = {{0, 0, 0, 0, 0}, {0, 2, 15, 15, 0}, {0, 2, 16, 10, 1}, {0, 2, 10, -1, 1}, {0, 2, MIN, MAX, 1},
            {1, 0, 0, 16, 1}, {0, 2, 10, 0, 2}, {0, 2, 0, 10, 2}, {0, 2, 0, 0, 4}, {0, 2, 5, 0, 4}, {0, 2, 2, 2, 4},
            {0, 2, 4, 4, 5}, {0, 2, 1, 1, 5}, {1, 0, 3, 2, 2}, {1, 0, 0, 0, 4}, {1, 0, 12, 12, 3}, {1, 1, 15, 3, 3}, {1, 0, 4, 1, 4},
            {2, 0, 7, 7, 0}, {2, 1, 6, 7, 2}, {2, 2, 8, 6, 4}, {2, 0, 3, 2, 4}, {0, 1, 2, 9, 5}, {1, 1, 7, 9, 0}, {1, 1, 9, 9, 3}};
        for (int[] d : dues) {
            check.due("whyNot" + java.util.Arrays.toString(d), d[4], () -> p.whyNot(d[0], d[1], d[2], d[3]));
        }
        int[][] wrong = {{-1, 0}, {3, 0}, {0, -1}, {0, 4}, {1, 3}, {MIN, MIN}, {MAX, MAX}, {0, MAX}};
        for (int[] w : wrong) {
            check.refused("whyNot(" + w[0] + ", " + w[1] + ", 99, 99)", INDEX, () -> p.whyNot(w[0], w[1], 99, 99));
        }
        SquaredPaper h = of(WHOLE + "/bbcbbc/kkmkkm");
        check.due("a hole grows round another", 3, () -> h.whyNot(1, 1, 14, 13));
        SquaredPaper big = of(WHOLE + "/bbcbbd/eefeef");
        check.due("a hole would lie in a hole", 5, () -> of(WHOLE + "/bbdbdccnbn/eefeef").whyNot(1, 2, 14, 14));
        check.due("a long thin hole", 0, () -> big.whyNot(1, 1, 14, 1));
        check.refused("undo behind whyNot", STATE, big::undo);
    }

    private void cut() {
        SquaredPaper p = of(NOTCH);
        dueAll("cut", new int[] {NONE, NONE, 16, 12, NONE, NONE, 12, 16}, p::cut);
        for (int k : new int[] {-1, 8, 10, MIN, MAX}) {
            check.refused("cut(" + k + ")", INDEX, () -> p.cut(k));
        }
        check.due("cut of a triangle", NONE, () -> of("Faaeaae").cut(0));
        check.due("cut of a straight corner", NONE, () -> of("Faacaeaeeae").cut(1));
        check.due("cut beside a straight corner", 8, () -> of("Faacaeaeeae").cut(2));
        check.due("cut with a hole in the triangle", 225, () -> of(WHOLE + "/hbjbhd").cut(1));
        check.due("cut with a hole in the way", NONE, () -> of(WHOLE + "/hhjhhj").cut(1));
        check.due("cut of a corner of the outline with a hole", NONE, () -> of(WHOLE + "/hhjhhj").cut(3));
        check.refused("cut(4) with a hole", INDEX, () -> of(WHOLE + "/hhjhhj").cut(4));
    }

    private void bestMove() {
        check.due("bestMove of the square", 10, () -> new SquaredPaper().bestMove());
        check.due("bestMove of the whole paper", 0, () -> of(WHOLE).bestMove());
        // the corner 1 may go up or the corner 2 to the left
        check.due("bestMove at the right border", 11, () -> of("Fpapiha").bestMove());
        check.due("bestMove of a small triangle", 10, () -> of("Faabaab").bestMove());
        check.due("bestMove of a triangle that goes right", 11, () -> of("Faaabba").bestMove());
        check.due("bestMove leaves holes alone", 0, () -> of(WHOLE + "/hhjhhj").bestMove());
    }

    private void inRow() {
        SquaredPaper p = of("Faakakkak/cchcch");
        int[][] dues = {{0, 0, 0}, {0, 1, 11}, {1, 0, 9}, {1, 1, 11}, {2, 0, 3}, {2, 1, 11}, {3, 0, 4}, {3, 1, 8}, {7, 0, 8}, {7, 1, 11},
            {10, 1, 11}, {11, 1, 0}, {15, 0, 0}};
        for (int[] d : dues) {
            check.due("inRow(" + d[0] + ", " + d[1] + ")", d[2], () -> p.inRow(d[0], d[1] == 1));
        }
        for (int y : new int[] {-1, 16, MIN, MAX}) {
            check.refused("inRow(" + y + ", true)", ARGUMENT, () -> p.inRow(y, true));
            check.refused("inRow(" + y + ", false)", ARGUMENT, () -> p.inRow(y, false));
        }
        check.due("inRow(15, true) of the whole paper", 16, () -> of(WHOLE).inRow(15, true));
    }

    private void cuttings() {
        check.due("cuttings of a triangle", 1, () -> of("Faaeaae").cuttings());
        check.due("cuttings of the square", 2, () -> new SquaredPaper().cuttings());
        check.due("cuttings of a figure with one hollow corner", 1, () -> of("Faaeabbae").cuttings());
        check.due("cuttings of ten corners", 1430, () -> of(ROUND).cuttings());
        check.due("cuttings of seven corners", 42, () -> of("Feajancpgnnjpfp").cuttings());
        check.due("cuttings of the notch", 8, () -> of(NOTCH).cuttings());
        check.due("cuttings of a straight corner", NONE, () -> of("Faacaeaeeae").cuttings());
        check.due("cuttings with a hole", NONE, () -> of(WHOLE + "/hhjhhj").cuttings());
        SquaredPaper p = of(WHOLE + "/hhjhhj");
        p.dropHole(1);
        check.due("cuttings without the hole", 2, p::cuttings);
    }

    // ---- promises 25 and 26

    private void scriptRanges() {
        SquaredPaper p = new SquaredPaper();
        for (int n : new int[] {-1, 0, 4, MIN, MAX}) {
            check.refused("runScript(" + n + ", 600000)", ARGUMENT, () -> p.runScript(n, 600000));
        }
        long[][] wrong = {{1, -1}, {1, 1000000}, {2, 1000000000000L}, {3, 1000000000000000000L}, {3, Long.MAX_VALUE}, {3, Long.MIN_VALUE},
            {2, Long.MIN_VALUE}, {1, 600000600000L}};
        for (long[] w : wrong) {
            check.refused("runScript(" + w[0] + ", " + w[1] + ")", ARGUMENT, () -> p.runScript((int) w[0], w[1]));
        }
        dueScript(p, 1, 0, 0);
        dueScript(p, 1, 600000, NONE);
        dueScript(p, 1, 999999, 0);
        dueScript(p, 2, 600000, 0);
        dueScript(p, 3, 600000600000L, 0);
        dueScript(p, 2, 600000999999L, 1);
        dueScript(p, 3, 600000610000000000L, 2);
        dueScript(p, 3, 600000610000600000L, NONE);
        dueScript(p, 3, 999999999999999999L, 0);
        dueFigure("scripts", SQUARE, p);
        check.refused("undo after scripts", STATE, p::undo);
    }

    private void dueScript(SquaredPaper p, int n, long script, int want) {
        check.due("runScript(" + n + ", " + script + ") of " + figureOf(p), want, () -> p.runScript(n, script));
    }

    private void scriptMoves() {
        SquaredPaper p = of("Faaeaeeae/bbcbbc");
        dueScript(p, 2, 121515700119L, NONE);
        dueScript(p, 2, 121515700120L, 1);
        dueScript(p, 1, 121516, 0);
        dueScript(p, 1, 120000, 0);
        dueScript(p, 1, 140101, 0);
        dueScript(p, 1, 190101, 0);
        dueScript(p, 2, 221515700119L, 1);
        dueScript(p, 2, 210602700039L, NONE);
        dueScript(p, 2, 210602700040L, 1);
        dueScript(p, 1, 240602, 0);
        dueScript(p, 1, 219999, 0);
        dueScript(p, 2, 302000700015L, NONE);
        dueScript(p, 2, 302000700016L, 1);
        dueScript(p, 2, 300000700015L, 0);
        dueScript(of(SQUARE), 2, 302000700016L, NONE);
        dueScript(of(SQUARE), 2, 302000302000L, 1);
        for (int bad : new int[] {302001, 302010, 302100, 304000, 309000, 312000, 390000}) {
            dueScript(of(SQUARE), 1, bad, 0);
        }
        dueScript(of(WHOLE), 3, 401010014140L * 1000000 + 700449, 1);
        dueScript(of(WHOLE), 3, 401010413130L * 1000000 + 700448, NONE);
        dueScript(of(WHOLE), 3, 401010413130L * 1000000 + 700449, 2);
        for (int bad : new int[] {401011, 400000, 414140, 415050, 405150, 499990}) {
            dueScript(of(WHOLE), 1, bad, 0);
        }
        dueScript(of(WHOLE + "/bbcbbc/eefeef/hhihhi"), 1, 411110, 0);
    }

    private void scriptWholeFigure() {
        SquaredPaper p = new SquaredPaper();
        dueScript(p, 2, 502626815151L, NONE);
        dueScript(p, 1, 502726, 0);
        dueScript(p, 1, 502627, 0);
        dueScript(p, 1, 501514, 0);
        dueScript(p, 1, 501415, 0);
        dueScript(p, 1, 501515, NONE);
        dueScript(p, 1, 511515, 0);
        dueScript(p, 1, 503115, 0);
        dueScript(p, 1, 501599, 0);
        dueScript(p, 2, 600000815001L, NONE);
        dueScript(p, 2, 600000800001L, 1);
        dueScript(p, 2, 610000815001L, NONE);
        dueScript(p, 2, 610000800001L, 1);
        SquaredPaper t = of("Faaiaad");
        dueScript(t, 2, 600000815081L, NONE);
        dueScript(t, 2, 610000815081L, 1);
        dueScript(t, 2, 610000815031L, NONE);
        for (int bad : new int[] {600001, 600010, 600100, 601000, 610001, 611000, 620000, 690000}) {
            dueScript(p, 1, bad, 0);
        }
    }

    private void scriptQuestions() {
        SquaredPaper p = of("Faakakkak/cchcch");
        for (int good : new int[] {700000, 700175, 800001, 801012, 815150, 803033, 900077, 900999}) {
            dueScript(p, 1, good, NONE);
        }
        for (int bad : new int[] {700176, 700999, 710000, 701000, 770000, 800000, 800002, 801013, 803032, 803034, 816000, 800160, 899990,
            803039, 910077, 901077, 900059, 900000, 0, 12345, 99999}) {
            dueScript(p, 1, bad, 0);
        }
        int inside = p.about(4);
        dueScript(p, 1, 900000 + inside, NONE);
        dueScript(p, 1, 900000 + inside - 1, 0);
    }

    private void simulate() {
        SquaredPaper p = new SquaredPaper();
        for (int m : new int[] {-1, 0, 61, MIN, MAX}) {
            check.refused("simulate(1, " + m + ")", ARGUMENT, () -> p.simulate(1, m));
        }
        // x is 1442695040888963407, r is 167951808: corner 0 by direction 0
        check.due("simulate(0, 1)", simulatedByHand(0, 1), () -> p.simulate(0, 1));
        for (long seed : new long[] {0, 1, -1, 3, Long.MIN_VALUE, Long.MAX_VALUE, 123456789012345L}) {
            for (int m : new int[] {1, 2, 7, 60}) {
                check.due("simulate(" + seed + ", " + m + ")", simulatedByHand(seed, m), () -> p.simulate(seed, m));
            }
        }
        dueFigure("simulate", SQUARE, p);
        check.refused("undo after simulate", STATE, p::undo);
    }

    /** The same moves, made as moves of the face. */
    private static int simulatedByHand(long seed, int m) {
        SquaredPaper p = new SquaredPaper();
        long x = seed;
        int possible = 0;
        for (int i = 0; i < m; i++) {
            x = x * 6364136223846793005L + 1442695040888963407L;
            int r = (int) (x >>> 33);
            int k = r / 4 % 4;
            int dx = r % 4 == 0 ? 1 : r % 4 == 2 ? -1 : 0;
            int dy = r % 4 == 1 ? 1 : r % 4 == 3 ? -1 : 0;
            try {
                p.move(0, k, p.corner(0, k, 0) + dx, p.corner(0, k, 1) + dy);
                possible++;
            } catch (IllegalStateException e) {
                continue;
            }
        }
        return 1000 * possible + p.about(2);
    }

    // ---- promises 27 and 28

    private void save() {
        SquaredPaper p = of(TWO_HOLES);
        check.due("save(0)", 10, () -> p.save(0));
        p.dropHole(1);
        check.due("save(1)", 7, () -> p.save(1));
        for (int slot : new int[] {-1, 2, MIN, MAX}) {
            check.refused("save(" + slot + ")", INDEX, () -> p.save(slot));
        }
        check.due("save is no action", 0, p::undo);
        p.turn();
        check.due("restore(1)", 7, () -> p.restore(1));
        dueFigure("restore(1)", WHOLE + "/kkmkkm", p);
        p.mirror();
        check.due("save(1) anew", 7, () -> p.save(1));
        check.due("restore(0)", 10, () -> p.restore(0));
        dueFigure("restore(0)", TWO_HOLES, p);
        check.due("restore(1) anew", 7, () -> p.restore(1));
        dueFigure("restore(1) anew", "Fpaaaappp/fkdkfm", p);
    }

    private void restore() {
        SquaredPaper p = new SquaredPaper();
        check.refused("restore of an empty slot", STATE, () -> p.restore(0));
        for (int slot : new int[] {-1, 2, MIN, MAX}) {
            check.refused("restore(" + slot + ")", INDEX, () -> p.restore(slot));
        }
        p.save(0);
        p.insert(0, 0, 2, 1);
        p.turn();
        check.refused("restore of the other slot", STATE, () -> p.restore(1));
        check.due("restore", 4, () -> p.restore(0));
        dueFigure("restore", SQUARE, p);
        check.refused("undo after restore", STATE, p::undo);
        p.turn();
        p.turn();
        check.due("the slot keeps the state", 4, () -> p.restore(0));
        dueFigure("restore again", SQUARE, p);
        check.refused("restore is no action", STATE, p::undo);
        p.move(0, 0, 1, 1);
        check.due("undo of a move after restore", 0, p::undo);
    }

    private void questionsChangeNothing() {
        SquaredPaper p = of(NOTCH);
        p.turn();
        String before = figureOf(p);
        p.errorPosition();
        p.whyNot(0, 0, 3, 3);
        p.whyNot(0, 0, 99, 3);
        p.cut(2);
        p.bestMove();
        p.inRow(3, true);
        p.cuttings();
        p.runScript(2, 600000610000L);
        p.simulate(5, 60);
        p.save(0);
        for (int what = 0; what < 10; what++) {
            p.about(what);
        }
        dueFigure("questions", before, p);
        check.due("questions are not remembered", 0, p::undo);
        dueFigure("undo", NOTCH, p);
    }
}
