import java.util.ArrayList;
import java.util.List;
import java.util.Random;

/** Runs of up to 512 calls, made by chance (the same each time), in which class and oracle must answer alike. */
public final class RandomRunsTest {
    private static final int RUNS = 240;
    private static final int CALLS = 500;
    private static final int[] ODD = {Integer.MIN_VALUE, -1, 16, 10, 99, Integer.MAX_VALUE, 1 << 30, -9};
    private static final String[] FIGURES = {
        "Faapappap/cccmmc",
        "Faakakkak/bbdbdd/ffhfhh/bgbidi",
        "Faahahddddhah",
        "Faamamjjjjdgdgjdjddad",
        "Feajancpgnnjpfpbmaibd",
        "Faapappap/bbocob/nonnon/dfdkekef",
        "Fjbhagbmkojle",
        "Febpeopamcdbj/klmhgcefjkjlgjhm",
        "Fehbcpaoknlmplocnfi/kjhdjkllmomnmdki/hifdiifmijikgmdn",
        "Fadbclajcobppdpdmboah/oelmngjlkmhonnln/fkenfmgmjkhjkh/ceghbfckmelfnejd",
        "Fedpapminjpapaa/leokmlnjkhiilgkc/hihjlkkkgmemhgke/fddnfobobfchcj",
        "Fmnnkjlpeigiejeacilem",
        "Faapcmmnmhpcl/cfbbdbeejdgcfbld/djimfihknhjfihig",
        "Fpboaaaalimmp/ifbkgijgkbidgghf/nekihkiihidk",
        "Faadaeapaphjoapaf/fkifghgfdjdmekdo/jgldmhocnhinhnhj/hcgefddhddcnbblc",
        "Fabpaonnpjpao/gjjliilgjjocmjjm/cchdgecmehcfcibn/ejcofnfmghheicfh",
        "Fahhaiemdpiojlkfo",
        "Fcolooolkpjnjmendlbam",
        "Faamapokpnnaobk/fgdkdldmfihjhgkd/gbfdkcffdjdiefee",
        Figures.FULL,
        Figures.STUCK,
    };

    private final Check check = new Check();
    private Random random;
    private SquaredPaper paper;
    private Oracle oracle;
    private int run;
    private int calls;
    private final List<String> made = new ArrayList<>();

    public static void main(String[] args) {
        RandomRunsTest test = new RandomRunsTest();
        for (String figure : FIGURES) {
            Oracle oracle = new Oracle();
            oracle.clearText();
            for (char sign : figure.toCharArray()) {
                oracle.append(sign);
            }
            test.check.due("the error position of " + figure, Oracle.NONE, oracle::errorPosition);
        }
        for (int run = 0; run < RUNS && test.check.wrong() == 0; run++) {
            test.oneRun(run);
        }
        test.check.end();
    }

    private void oneRun(int number) {
        run = number;
        random = new Random(number);
        paper = new SquaredPaper();
        oracle = new Oracle();
        calls = 0;
        made.clear();
        if (number % 3 > 0) {
            write(FIGURES[number % FIGURES.length]);
        }
        while (calls < CALLS && check.wrong() == 0) {
            step();
        }
    }

    private void compare(String call, Check.Call mine, Check.Call due) {
        calls++;
        made.add(call);
        String got = Check.answerOf(mine);
        String want = Check.answerOf(due);
        if (!got.equals(want)) {
            check.report("run " + run + ", figure " + oracle.figure() + ": " + call + " answered " + got + ", due is " + want
                + "; the last calls: " + made.subList(Math.max(0, made.size() - 12), made.size()));
        }
    }

    private void step() {
        int kind = random.nextInt(100);
        if (kind < 45) {
            change();
        } else if (kind < 60) {
            ask();
        } else if (kind < 70) {
            tell();
        } else if (kind < 82) {
            wouldBe();
        } else if (kind < 92) {
            scripts();
        } else if (kind < 97) {
            slots();
        } else {
            text();
        }
    }

    private int ringNumber() {
        int rings = oracle.about(0);
        return random.nextInt(12) == 0 ? odd(rings) : random.nextInt(rings);
    }

    private int cornerNumber(int r) {
        int size = r >= 0 && r < oracle.about(0) ? oracle.ring(r, 0) : 3;
        return random.nextInt(14) == 0 ? odd(size) : random.nextInt(size);
    }

    private int odd(int near) {
        int i = random.nextInt(ODD.length + 2);
        return i >= ODD.length ? near : ODD[i];
    }

    /** Mostly near the corner, as far goals are mostly impossible. */
    private int near(int r, int k, int what) {
        int kind = random.nextInt(20);
        if (kind == 0) {
            return odd(15);
        }
        if (kind < 7 || Check.answerOf(() -> oracle.corner(r, k, what)).startsWith("java")) {
            return random.nextInt(16);
        }
        return oracle.corner(r, k, what) + random.nextInt(7) - 3;
    }

    /** A ring, a corner and a point; mostly such that the change is possible, so that figures grow. */
    private int[] goalOf(int kind) {
        int[] goal = null;
        for (int tries = 0; tries < 30; tries++) {
            int r = ringNumber();
            int k = cornerNumber(r);
            goal = new int[] {r, k, near(r, k, 0), near(r, k, 1)};
            int x = goal[2];
            int y = goal[3];
            boolean possible = kind < 4 ? oracle.can(o -> o.move(r, k, x, y))
                : kind < 8 ? oracle.can(o -> o.insert(r, k, x, y))
                : kind == 9 || kind == 10 ? oracle.can(o -> o.addHole(x, y)) : true;
            if (possible || random.nextInt(40) == 0) {
                return goal;
            }
        }
        return goal;
    }

    private void change() {
        int kind = random.nextInt(15);
        int[] goal = goalOf(kind);
        int r = goal[0];
        int k = goal[1];
        int x = goal[2];
        int y = goal[3];
        switch (kind) {
            case 0: case 1: case 2: case 3:
                compare("move " + r + " " + k + " " + x + " " + y, () -> paper.move(r, k, x, y), () -> oracle.move(r, k, x, y));
                break;
            case 4: case 5: case 6: case 7:
                compare("insert " + r + " " + k + " " + x + " " + y, () -> paper.insert(r, k, x, y), () -> oracle.insert(r, k, x, y));
                break;
            case 8:
                compare("remove " + r + " " + k, () -> paper.remove(r, k), () -> oracle.remove(r, k));
                break;
            case 9: case 10:
                compare("addHole " + x + " " + y, () -> paper.addHole(x, y), () -> oracle.addHole(x, y));
                break;
            case 11:
                if (random.nextInt(3) == 0) {
                    compare("dropHole " + r, () -> paper.dropHole(r), () -> oracle.dropHole(r));
                }
                break;
            case 12:
                int dx = random.nextInt(8) == 0 ? odd(15) : random.nextInt(7) - 3;
                int dy = random.nextInt(8) == 0 ? odd(-15) : random.nextInt(7) - 3;
                compare("shift " + dx + " " + dy, () -> paper.shift(dx, dy), () -> oracle.shift(dx, dy));
                break;
            case 13:
                if (random.nextBoolean()) {
                    compare("turn", paper::turn, oracle::turn);
                } else {
                    compare("mirror", paper::mirror, oracle::mirror);
                }
                break;
            default:
                for (int i = random.nextInt(20) == 0 ? 16 : 1; i > 0; i--) {
                    compare("undo", paper::undo, oracle::undo);
                }
        }
    }

    private void ask() {
        int what = random.nextInt(20) == 0 ? odd(10) : random.nextInt(10);
        compare("about " + what, () -> paper.about(what), () -> oracle.about(what));
    }

    private void tell() {
        int r = ringNumber();
        int k = cornerNumber(r);
        int s = ringNumber();
        int m = cornerNumber(s);
        int what = random.nextInt(9) == 0 ? odd(6) : random.nextInt(6);
        int x = near(r, k, 0);
        int y = near(r, k, 1);
        switch (random.nextInt(5)) {
            case 0:
                compare("ring " + r + " " + what, () -> paper.ring(r, what), () -> oracle.ring(r, what));
                break;
            case 1: case 2:
                compare("corner " + r + " " + k + " " + what, () -> paper.corner(r, k, what), () -> oracle.corner(r, k, what));
                break;
            case 3:
                compare("point " + x + " " + y, () -> paper.point(x, y), () -> oracle.point(x, y));
                break;
            default:
                compare("sees " + r + " " + k + " " + s + " " + m, () -> paper.sees(r, k, s, m) ? 1 : 0, () -> oracle.sees(r, k, s, m));
        }
    }

    private void wouldBe() {
        int r = ringNumber();
        int k = cornerNumber(r);
        int x = near(r, k, 0);
        int y = near(r, k, 1);
        boolean border = random.nextBoolean();
        switch (random.nextInt(9)) {
            case 0:
                compare("bestMove", paper::bestMove, oracle::bestMove);
                break;
            case 1:
                compare("cuttings", paper::cuttings, oracle::cuttings);
                break;
            case 2:
                int c = cornerNumber(0);
                compare("cut " + c, () -> paper.cut(c), () -> oracle.cut(c));
                break;
            case 3:
                compare("inRow " + y + " " + border, () -> paper.inRow(y, border), () -> oracle.inRow(y, border));
                break;
            default:
                compare("whyNot " + r + " " + k + " " + x + " " + y, () -> paper.whyNot(r, k, x, y), () -> oracle.whyNot(r, k, x, y));
        }
    }

    private void scripts() {
        if (random.nextInt(4) == 0) {
            long seed = random.nextLong();
            int m = random.nextInt(10) == 0 ? odd(61) : 1 + random.nextInt(60);
            compare("simulate " + seed + " " + m, () -> paper.simulate(seed, m), () -> oracle.simulate(seed, m));
            return;
        }
        int n = random.nextInt(12) == 0 ? odd(4) : 1 + random.nextInt(3);
        long script = 0;
        for (int i = 0; i < n && i < 3; i++) {
            script = script * 1000000 + group();
        }
        if (random.nextInt(20) == 0) {
            script = random.nextBoolean() ? -script : script * 10;
        }
        long all = script;
        compare("runScript " + n + " " + all, () -> paper.runScript(n, all), () -> oracle.runScript(n, all));
    }

    private int group() {
        int kind = random.nextInt(10);
        int k = cornerNumber(0) % 10 & 7;
        int x = oracle.corner(0, k % oracle.ring(0, 0), 0) + random.nextInt(3) - 1 & 31;
        int y = oracle.corner(0, k % oracle.ring(0, 0), 1) + random.nextInt(3) - 1 & 31;
        int group;
        switch (kind) {
            case 1: case 2: group = kind * 100000 + k * 10000 + x * 100 + y; break;
            case 3: group = 300000 + random.nextInt(oracle.about(0)) * 10000 + random.nextInt(10) * 1000; break;
            case 4: group = 400000 + random.nextInt(16) * 1000 + random.nextInt(16) * 10; break;
            case 5: group = 500000 + (12 + random.nextInt(7)) * 100 + 12 + random.nextInt(7); break;
            case 6: group = 600000 + random.nextInt(3) * 10000; break;
            case 7: group = 700000 + oracle.about(2) + random.nextInt(3) - 1; break;
            case 8: group = 800000 + x * 1000 + y * 10 + random.nextInt(5); break;
            case 9: group = 900000 + Math.max(0, oracle.about(4) + random.nextInt(3) - 1); break;
            default: group = random.nextInt(1000000);
        }
        return random.nextInt(12) == 0 ? spoilt(group) : group;
    }

    private int spoilt(int group) {
        int unit = 1;
        for (int i = random.nextInt(6); i > 0; i--) {
            unit *= 10;
        }
        return (group + unit) % 1000000;
    }

    private void slots() {
        int slot = random.nextInt(5) == 0 ? odd(2) : random.nextInt(2);
        if (random.nextInt(3) > 0) {
            compare("save " + slot, () -> paper.save(slot), () -> oracle.save(slot));
        } else {
            compare("restore " + slot, () -> paper.restore(slot), () -> oracle.restore(slot));
        }
    }

    private void text() {
        if (calls > CALLS - 100) {
            return;
        }
        StringBuilder figure = new StringBuilder(
            random.nextInt(3) == 0 ? FIGURES[random.nextInt(FIGURES.length)] : oracle.figure());
        for (int i = random.nextInt(4); i > 0 && figure.length() > 0; i--) {
            int at = random.nextInt(figure.length());
            char sign = "abcdefghijklmnop/qF`A\u00e9".charAt(random.nextInt(random.nextInt(3) == 0 ? 22 : 16));
            switch (random.nextInt(5)) {
                case 0: figure.deleteCharAt(at); break;
                case 1: figure.insert(at, sign); break;
                case 2: figure.setLength(at); break;
                default: figure.setCharAt(at, sign);
            }
        }
        write(figure.toString());
    }

    private void write(String signs) {
        compare("clearText", paper::clearText, oracle::clearText);
        for (int i = 0; i < signs.length(); i++) {
            int sign = signs.charAt(i);
            compare("append " + sign, () -> paper.append(sign), () -> oracle.append(sign));
            if (random.nextInt(8) == 0) {
                compare("errorPosition", paper::errorPosition, oracle::errorPosition);
            }
        }
        if (random.nextInt(5) == 0) {
            int sign = odd(256);
            compare("append " + sign, () -> paper.append(sign), () -> oracle.append(sign));
        }
        compare("errorPosition", paper::errorPosition, oracle::errorPosition);
        compare("load", paper::load, oracle::load);
    }
}
