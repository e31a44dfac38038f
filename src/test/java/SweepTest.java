import java.util.ArrayList;
import java.util.List;

/** Some figures, asked everything: each number from one below its range to one above it, compared with the oracle. */
public final class SweepTest {
    private static final String[] FIGURES = {
        Figures.SQUARE, Figures.TINY, Figures.NOTCH, Figures.STAR, Figures.STUCK, Figures.TWO_HOLES, Figures.ROUND, "Faakakkffidag",
        "Foopoppop", "Fcaeaeeaeaa", "Faapappap/bboboobo", "Faakakkak/ccgcedci/ihjhjijj",
    };
    private static final String[] TEXTS = {
        Figures.TINY, "Faaeeeaae/ffhffh", "Faapappap/bbcbbc/ebfbec/hbibhc", Figures.ROUND + "/ddkddk", Figures.FULL,
    };
    /** Signs at the edges of what a text may hold, and some that may stand in it. */
    private static final String SIGNS = "F/apb`qoAf .0\u0000\u00ff\u00e1";
    /** Fewer than may be made, as an action may be taken back too. */
    private static final int MOST_CALLS = 300;

    private final Check check = new Check();
    private String figure;
    private SquaredPaper paper;
    private Oracle oracle;
    private int calls;

    public static void main(String[] args) {
        SweepTest test = new SweepTest();
        for (String figure : FIGURES) {
            test.figure = figure;
            test.begin();
            test.questions();
            test.corners();
            test.pairs();
            test.wholeFigure();
            test.scripts();
        }
        for (String text : TEXTS) {
            test.texts(text);
        }
        test.check.end();
    }

    private void begin() {
        paper = new SquaredPaper();
        oracle = new Oracle();
        for (char sign : figure.toCharArray()) {
            paper.append(sign);
            oracle.append(sign);
        }
        check.due("load of " + figure, oracle.load(), paper::load);
        calls = figure.length();
    }

    private void ask(String call, Check.Call mine, Check.Call due) {
        String got = Check.answerOf(mine);
        String want = Check.answerOf(due);
        if (!got.equals(want)) {
            check.report(figure + ": " + call + " answered " + got + ", due is " + want);
        }
        calls++;
        if (calls > MOST_CALLS) {
            begin();
        }
    }

    /** An action that is possible is taken back, so that the next one finds the figure again. */
    private void act(String call, Check.Call mine, Check.Call due) {
        ask(call, () -> backAfter(mine), () -> {
            long answer = due.answer();
            oracle.undo();
            return answer;
        });
    }

    private long backAfter(Check.Call mine) {
        long answer = mine.answer();
        calls++;
        check.due("undo", 0, paper::undo);
        return answer;
    }

    private void questions() {
        for (int i = -1; i <= 16; i++) {
            int n = i;
            ask("about " + n, () -> paper.about(n), () -> oracle.about(n));
            ask("cut " + n, () -> paper.cut(n), () -> oracle.cut(n));
            for (boolean border : new boolean[] {false, true}) {
                ask("inRow " + n + " " + border, () -> paper.inRow(n, border), () -> oracle.inRow(n, border));
            }
            for (int j = -1; j <= 16; j++) {
                int m = j;
                ask("point " + n + " " + m, () -> paper.point(n, m), () -> oracle.point(n, m));
            }
        }
        ask("bestMove", () -> paper.bestMove(), () -> oracle.bestMove());
        ask("cuttings", () -> paper.cuttings(), () -> oracle.cuttings());
    }

    private void corners() {
        for (int i = -1; i <= oracle.about(0); i++) {
            int r = i;
            act("dropHole " + r, () -> paper.dropHole(r), () -> oracle.dropHole(r));
            for (int j = -1; j <= 10; j++) {
                int k = j;
                ask("ring " + r + " " + k, () -> paper.ring(r, k), () -> oracle.ring(r, k));
                act("remove " + r + " " + k, () -> paper.remove(r, k), () -> oracle.remove(r, k));
                for (int what = -1; what <= 6; what++) {
                    int w = what;
                    ask("corner " + r + " " + k + " " + w, () -> paper.corner(r, k, w), () -> oracle.corner(r, k, w));
                }
                goals(r, k);
            }
        }
    }

    /** Where there is no corner, one goal tells as much as all of them. */
    private void goals(int r, int k) {
        boolean exists = oracle.can(o -> o.corner(r, k, 0));
        for (int i = exists ? -1 : 16; i <= 16; i++) {
            for (int j = exists ? -1 : 16; j <= 16; j++) {
                int x = i;
                int y = j;
                String goal = r + " " + k + " " + x + " " + y;
                ask("whyNot " + goal, () -> paper.whyNot(r, k, x, y), () -> oracle.whyNot(r, k, x, y));
                act("move " + goal, () -> paper.move(r, k, x, y), () -> oracle.move(r, k, x, y));
                act("insert " + goal, () -> paper.insert(r, k, x, y), () -> oracle.insert(r, k, x, y));
            }
        }
    }

    private void pairs() {
        int rings = oracle.about(0);
        for (int i = -1; i < (rings + 1) * 12; i++) {
            for (int j = -1; j < (rings + 1) * 12; j++) {
                int r = Math.floorDiv(i, 12);
                int k = Math.floorMod(i, 12) - 1;
                int s = Math.floorDiv(j, 12);
                int m = Math.floorMod(j, 12) - 1;
                ask("sees " + r + " " + k + " " + s + " " + m, () -> paper.sees(r, k, s, m) ? 1 : 0, () -> oracle.sees(r, k, s, m));
            }
        }
    }

    private void wholeFigure() {
        for (int i = -17; i <= 17; i++) {
            for (int j = -17; j <= 17; j++) {
                int x = i;
                int y = j;
                act("shift " + x + " " + y, () -> paper.shift(x, y), () -> oracle.shift(x, y));
                act("addHole " + x + " " + y, () -> paper.addHole(x, y), () -> oracle.addHole(x, y));
            }
        }
        act("turn", () -> paper.turn(), () -> oracle.turn());
        act("mirror", () -> paper.mirror(), () -> oracle.mirror());
        for (int m = -1; m <= 61; m++) {
            for (long seed : new long[] {0, m, -1L << m, Long.MAX_VALUE - m}) {
                int times = m;
                ask("simulate " + seed + " " + m, () -> paper.simulate(seed, times), () -> oracle.simulate(seed, times));
            }
        }
    }

    /** The commands with the numbers that stand in a figure, in steps that are no divisor of their places. */
    private void scripts() {
        for (int group = 0; group < 1000000; group += 53) {
            long one = group;
            ask("runScript 1 " + one, () -> paper.runScript(1, one), () -> oracle.runScript(1, one));
        }
        for (int n = -1; n <= 4; n++) {
            int commands = n;
            for (long script = 1; script < Long.MAX_VALUE / 10; script *= 10) {
                for (long near : new long[] {script - 1, script, -script, 6 * script, script * 610000 - 1}) {
                    ask("runScript " + n + " " + near, () -> paper.runScript(commands, near), () -> oracle.runScript(commands, near));
                }
            }
        }
    }

    /** Each beginning of the text; each sign of it left out, put in and changed. */
    private void texts(String text) {
        List<String> all = new ArrayList<>();
        for (int i = 0; i <= text.length(); i++) {
            all.add(text.substring(0, i));
            for (char sign : SIGNS.toCharArray()) {
                all.add(text.substring(0, i) + sign + text.substring(i));
                if (i < text.length()) {
                    all.add(text.substring(0, i) + sign + text.substring(i + 1));
                    all.add(text.substring(0, i) + text.substring(i + 1));
                }
            }
        }
        for (String one : all) {
            SquaredPaper p = new SquaredPaper();
            Oracle o = new Oracle();
            for (char sign : one.toCharArray()) {
                check.due("append of " + (int) sign, o.append(sign), () -> p.append(sign));
            }
            check.due("errorPosition of " + one, o.errorPosition(), p::errorPosition);
            check.same("load of " + one, Check.answerOf(o::load), Check.answerOf(p::load));
            check.due("about 2 after " + one, o.about(2), () -> p.about(2));
        }
    }
}
