import java.math.BigInteger;
import java.util.ArrayList;
import java.util.List;

/** The promises 25 and 26. */
final class BoundaryScripts {
    private static final BigInteger TWO_64 = BigInteger.ONE.shiftLeft(64);
    private static final BigInteger FACTOR = new BigInteger("6364136223846793005");
    private static final BigInteger SUMMAND = new BigInteger("1442695040888963407");
    private static final String HOLED = "Faaeaeeae/bbcbbc";

    private BoundaryScripts() {
    }

    static void hold(Sentences s) {
        wholeScripts(s);
        moves(s);
        wholeFigure(s);
        questions(s);
        failures(s);
        ranges(s);
        simulate(s);
        simulateRanges(s);
    }

    private static void wholeScripts(Sentences s) {
        s.in("Promise 25");
        s.holds("Runs a script on a copy of the state.", "lived " + HOLED, "runScript 2 121515700119 = NONE", "runScript 1 700032 = 0",
            "runScript 3 600000610000302000 = NONE", "runScript 2 121515121616 = 1", "figure = " + HOLED, "undo = 2");
        s.holds("A script has 1 to 3 commands; each is a group of six decimal digits d1 to d6, and the first command is the highest group of"
            + " the number (with zeros before it, if it has fewer digits).", "given " + HOLED, "runScript 1 700031 = NONE",
            "runScript 2 121515700119 = NONE", "runScript 2 700119121515 = 0", "runScript 3 121515700119700120 = 2",
            "runScript 3 700031121515700119 = NONE", "runScript 2 700031 = 0", "runScript 3 700031 = 0", "runScript 3 700031700031 = 0",
            "runScript 1 0 = 0", "runScript 2 0 = 0", "runScript 3 0 = 0", "runScript 1 31 = 0");
    }

    private static void moves(Sentences s) {
        s.holds("1 k x x y y: move(0, k, xx, yy).", "given " + HOLED, "runScript 2 121515700119 = NONE", "runScript 2 121515700120 = 1",
            "runScript 1 100000 = NONE", "runScript 1 130004 = NONE", "runScript 1 140004 = 0", "runScript 1 190004 = 0",
            "runScript 1 121615 = 0", "runScript 1 121516 = 0", "runScript 1 129999 = 0", "runScript 1 120400 = 0", "runScript 1 120101 = 0",
            "given Faadagajamapappkpfpao", "runScript 1 190015 = NONE", "runScript 2 190015700450 = NONE", "runScript 2 190015700451 = 1");
        s.holds("2 k x x y y: insert(0, k, xx, yy).", "given " + HOLED, "runScript 2 210602700039 = NONE", "runScript 2 210602700040 = 1",
            "runScript 1 230002 = NONE", "runScript 1 230000 = 0", "runScript 1 240002 = 0", "runScript 1 290002 = 0", "runScript 1 211602 = 0",
            "given " + Figures.FULL, "runScript 1 200100 = 0", "runScript 1 290001 = 0", "runScript 2 301000200100 = NONE",
            "runScript 2 301000280001 = NONE", "runScript 3 301000280001200100 = 2");
        s.holds("3 r k 0 0 0: remove(r, k).", "given " + HOLED, "runScript 2 302000700015 = NONE", "runScript 2 302000700016 = 1",
            "runScript 1 303000 = 0", "runScript 1 304000 = 0", "runScript 1 309000 = 0", "runScript 1 310000 = 0", "runScript 1 320000 = 0",
            "runScript 1 390000 = 0", "runScript 1 302001 = 0", "runScript 1 302010 = 0", "runScript 1 302100 = 0",
            "runScript 2 302000302000 = 1", "new", "runScript 1 303000 = NONE", "runScript 1 304000 = 0",
            "given Faapappap/bbdbddbd", "runScript 2 313000700446 = NONE", "runScript 2 313000700447 = 1",
            "runScript 1 314000 = 0", "given " + Figures.FULL, "runScript 2 339000700404 = NONE", "runScript 2 339000700405 = 1",
            "runScript 1 340000 = 0");
        s.holds("4 x x y y 0: addHole(xx, yy).", "given Faapappap", "runScript 2 401010700449 = NONE", "runScript 2 401010700450 = 1",
            "runScript 2 413130815150 = 1", "runScript 2 413130814131 = NONE", "runScript 1 401130 = NONE", "runScript 1 414140 = 0",
            "runScript 1 415010 = 0", "runScript 1 401150 = 0", "runScript 1 400000 = 0", "runScript 1 499990 = 0", "runScript 1 401011 = 0",
            "runScript 2 401010401010 = 1", "runScript 3 401010404010407010 = NONE", "given Faapappap/bbcbbc/ebfbec",
            "runScript 1 410100 = NONE", "runScript 2 410100413130 = 1", "given " + Figures.FULL, "runScript 1 410100 = 0");
    }

    private static void wholeFigure(Sentences s) {
        s.holds("5 0 x x y y: shift(xx - 15, yy - 15).", "new", "runScript 1 501515 = NONE", "runScript 1 502626 = NONE",
            "runScript 2 502625815141 = NONE", "runScript 2 502625815151 = 1", "runScript 1 502726 = 0", "runScript 1 502627 = 0",
            "runScript 1 501415 = 0", "runScript 1 501514 = 0", "runScript 1 500015 = 0", "runScript 1 503015 = 0", "runScript 1 503115 = 0",
            "runScript 1 501531 = 0", "runScript 1 509999 = 0", "runScript 1 511515 = 0", "runScript 1 591515 = 0", "given Foopoop",
            "runScript 2 500101800011 = NONE", "runScript 1 500001 = 0", "runScript 1 500100 = 0");
        s.holds("6 q 0 0 0 0: turn() (q is 0) or mirror() (q is 1).", "given Faaiaad", "runScript 2 600000815081 = NONE",
            "runScript 2 610000815081 = 1", "runScript 2 610000815031 = NONE", "runScript 2 600000815031 = NONE",
            "runScript 2 600000815091 = 1", "runScript 1 620000 = 0", "runScript 1 690000 = 0", "runScript 1 600001 = 0",
            "runScript 1 600010 = 0", "runScript 1 600100 = 0", "runScript 1 601000 = 0", "runScript 1 610001 = 0", "runScript 1 611000 = 0",
            "runScript 3 600000600000815151 = NONE", "runScript 3 610000610000800001 = NONE");
    }

    private static void questions(Sentences s) {
        s.holds("7 0 0 x y z: succeeds if the doubled area of the figure is at least xyz.", "new", "runScript 1 700032 = NONE",
            "runScript 1 700033 = 0", "runScript 1 700031 = NONE", "runScript 1 700000 = NONE", "runScript 1 700999 = 0",
            "runScript 1 701032 = 0", "runScript 1 710032 = 0", "given Faapappap", "runScript 1 700450 = NONE", "runScript 1 700451 = 0",
            "given Faabaab", "runScript 1 700001 = NONE", "runScript 1 700002 = 0");
        s.holds("8 x x y y p: succeeds if the point (xx, yy) is at p (by point()).", "given Faakakkak/cchcch", "runScript 1 815150 = NONE",
            "runScript 1 800001 = NONE", "runScript 1 801012 = NONE", "runScript 1 803033 = NONE", "runScript 1 800000 = 0",
            "runScript 1 800002 = 0", "runScript 1 801013 = 0", "runScript 1 803032 = 0", "runScript 1 803034 = 0", "runScript 1 803039 = 0",
            "runScript 1 815151 = 0", "runScript 1 816150 = 0", "runScript 1 815160 = 0", "runScript 1 899990 = 0", "runScript 1 811050 = NONE",
            "runScript 1 805110 = NONE");
        s.holds("9 0 0 x y z: succeeds if at most xyz points of the paper are inside the figure.", "new", "runScript 1 900009 = NONE",
            "runScript 1 900008 = 0", "runScript 1 900010 = NONE", "runScript 1 900000 = 0", "runScript 1 900999 = NONE",
            "runScript 1 901009 = 0", "runScript 1 910009 = 0", "given Faabaab", "runScript 1 900000 = NONE", "given Faapappap",
            "runScript 1 900196 = NONE", "runScript 1 900195 = 0");
    }

    private static void failures(Sentences s) {
        s.holds("The commands 1 to 6 fail if the method would throw an exception; commands with rings or corners that do not exist fail, and so"
            + " does any other group (also one with another digit where a 0 is written).", "lived " + HOLED,
            // 1 to 6
            "runScript 1 121604 = 0", "runScript 1 230000 = 0", "runScript 1 310000 = 0", "runScript 1 401010 = 0", "runScript 1 501415 = 0",
            "runScript 1 415010 = 0", "runScript 1 503115 = 0",
            // corners and rings
            "runScript 1 140404 = 0", "runScript 1 240404 = 0", "runScript 1 304000 = 0", "runScript 1 313000 = 0", "runScript 1 320000 = 0",
            "runScript 1 390000 = 0",
            // other groups
            "runScript 1 0 = 0", "runScript 1 99999 = 0", "runScript 1 15151 = 0", "runScript 1 620000 = 0", "runScript 1 999999 = 0",
            Steps.each("runScript 1 # = 0", "302001", "302010", "302100", "413131", "511515", "600001", "610010", "600100", "601000", "701000",
                "710000", "901999", "910999"),
            "runScript 2 121515000000 = 1", "figure = " + HOLED);
        s.holds("xx, yy and xyz are decimal numbers.", "new", "runScript 2 121012810121 = NONE", "runScript 2 121012812101 = 1",
            "runScript 3 121515700120815151 = NONE", "runScript 2 121515700121 = 1", "given Faakakkak", "runScript 1 700200 = NONE",
            "runScript 1 700201 = 0", "runScript 1 810101 = NONE", "runScript 1 900081 = NONE", "runScript 1 900080 = 0",
            "runScript 2 402080700199 = NONE", "runScript 2 402080700200 = 1");
    }

    private static void ranges(Sentences s) {
        s.holds("n: number of commands, 1 to 3", "new", "runScript 0 0 ! IAE", "runScript 1 600000 = NONE", "runScript 3 600000600000600000 = NONE",
            "runScript 4 600000 ! IAE", "runScript 4 600000600000600000 ! IAE", "runScript -1 0 ! IAE");
        s.holds("script: the commands, a number of at most 6 * n digits (0 or more)", "new", "runScript 1 0 = 0", "runScript 1 -1 ! IAE",
            "runScript 1 999999 = 0", "runScript 1 1000000 ! IAE", "runScript 2 0 = 0", "runScript 2 -1 ! IAE", "runScript 2 999999999999 = 0",
            "runScript 2 1000000000000 ! IAE", "runScript 3 0 = 0", "runScript 3 -1 ! IAE", "runScript 3 999999999999999999 = 0",
            "runScript 3 1000000000000000000 ! IAE", "runScript 3 LMAX ! IAE", "runScript 3 LMIN ! IAE");
        s.holds("Returns the index, from 0, of the first command that fails; NONE if all succeed.", "new", "runScript 1 620000 = 0",
            "runScript 1 610000 = NONE", "runScript 2 620000620000 = 0", "runScript 2 610000620000 = 1", "runScript 2 610000610000 = NONE",
            "runScript 3 620000620000620000 = 0", "runScript 3 610000620000620000 = 1", "runScript 3 610000610000620000 = 2",
            "runScript 3 610000610000610000 = NONE", "runScript 3 620000610000610000 = 0");
        s.holds("Throws IllegalArgumentException if n is out of range, or if script is negative or has more than 6 * n digits",
            "lived " + HOLED, Steps.each("runScript # 0 ! IAE", "-1", "0", "4", "MIN", "MAX"), "runScript 0 600000 ! IAE", "runScript 4 -1 ! IAE",
            Steps.each("runScript 1 # ! IAE", "-1", "1000000", "600000600000", "-600000", "LMIN", "LMAX"),
            Steps.each("runScript 2 # ! IAE", "-1", "1000000000000", "-600000600000", "LMIN", "LMAX"),
            Steps.each("runScript 3 # ! IAE", "-1", "1000000000000000000", "LMIN", "LMAX"), "runScript 3 600000600000600000 = NONE");
    }

    private static void simulate(Sentences s) {
        s.in("Promise 26");
        s.holds("Simulates m moves on a copy of the state.", "lived " + HOLED, simulated(1, 60, HOLED), simulated(1, 60, HOLED), "figure = " + HOLED,
            "undo = 2");
        // the first x is SUMMAND and r 167951808: corner 0, to the right
        s.holds("A long x starts as the seed (once).", "new", "simulate 0 1 = 1028", simulated(0, 2, Figures.SQUARE), simulated(0, 3, Figures.SQUARE),
            simulated(7, 60, Figures.SQUARE), simulated(-7, 60, Figures.SQUARE));
        s.holds("For each move x is first replaced by x * 6364136223846793005L + 1442695040888963407L (with long overflow), and"
            + " r = (int) (x >>> 33) is computed; the corner r / 4 % N of the outline, N being its number of corners, is moved by 1 in the"
            + " direction r % 4 (as told at bestMove), if this is possible.", "new", seeds(Figures.SQUARE), "given " + HOLED, seeds(HOLED),
            // 3, 8 and 10 corners; moves that are not possible, or none that is
            "given Faapaap", seeds("Faapaap"), "given " + Figures.NOTCH, seeds(Figures.NOTCH), "given " + Figures.ROUND, seeds(Figures.ROUND),
            "given Faapappap", seeds("Faapappap"), "given " + Figures.STUCK, seeds(Figures.STUCK), "simulate 1 60 = 32", "simulate LMAX 1 = 32");
        s.holds("seed: any long", "new", simulated(Long.MIN_VALUE, 60, Figures.SQUARE), simulated(Long.MAX_VALUE, 60, Figures.SQUARE),
            simulated(-1, 60, Figures.SQUARE), simulated(0, 60, Figures.SQUARE), simulated(1L << 32, 60, Figures.SQUARE));
    }

    private static void simulateRanges(Sentences s) {
        s.holds("m: number of moves, 1 to 60", "new", "simulate 1 0 ! IAE", simulated(1, 1, Figures.SQUARE), simulated(1, 2, Figures.SQUARE),
            simulated(1, 59, Figures.SQUARE), simulated(1, 60, Figures.SQUARE), "simulate 1 61 ! IAE");
        s.holds("Returns 1000 * (how many moves are possible) + (the doubled area of the figure at the end).", "given " + Figures.STUCK,
            "simulate 0 60 = 32", "new", "simulate 0 1 = 1028", simulated(3, 60, Figures.SQUARE), "given Faapappap/bbcbbc",
            simulated(3, 60, "Faapappap/bbcbbc"));
        s.holds("Throws IllegalArgumentException if m is out of range", "lived " + HOLED,
            Steps.each("simulate 1 # ! IAE", "-1", "0", "61", "MIN", "MAX"), "simulate LMIN 61 ! IAE", "simulate 0 -1 ! IAE");
    }

    private static String[] seeds(String figure) {
        List<String> steps = new ArrayList<>();
        for (long seed : new long[] {0, 1, -1, 2, 42, 123456789012345L, -987654321098765L, Long.MIN_VALUE, Long.MAX_VALUE}) {
            for (int m : new int[] {1, 2, 5, 60}) {
                steps.add(simulated(seed, m, figure));
            }
        }
        return steps.toArray(new String[0]);
    }

    /** The call and its answer, from the moves made one by one, with numbers that do not overflow. */
    static String simulated(long seed, int m, String figure) {
        SquaredPaper p = new SquaredPaper();
        for (int i = 0; i < figure.length(); i++) {
            p.append(figure.charAt(i));
        }
        p.load();
        BigInteger x = BigInteger.valueOf(seed);
        int possible = 0;
        for (int i = 0; i < m; i++) {
            x = x.multiply(FACTOR).add(SUMMAND).mod(TWO_64);
            int r = x.shiftRight(33).intValueExact();
            int k = r / 4 % p.ring(0, 0);
            int toX = p.corner(0, k, 0) + (r % 4 == 0 ? 1 : r % 4 == 2 ? -1 : 0);
            int toY = p.corner(0, k, 1) + (r % 4 == 1 ? 1 : r % 4 == 3 ? -1 : 0);
            if (p.whyNot(0, k, toX, toY) == 0) {
                p.move(0, k, toX, toY);
                possible++;
            }
        }
        return "simulate " + seed + " " + m + " = " + (1000 * possible + p.about(2));
    }
}
