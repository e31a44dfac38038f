/** The promises 11 to 19, and what the terms say of actions and of undo. */
final class BoundaryActions {
    private static final String FULL = Figures.FULL;
    private static final String[] WRONG_RINGS = {"-1", "2", "3", "4", "MIN", "MAX"};

    private BoundaryActions() {
    }

    static void hold(Sentences s) {
        actions(s);
        remembered(s);
        move(s);
        insert(s);
        remove(s);
        addHole(s);
        dropHole(s);
        shift(s);
        turnAndMirror(s);
        undo(s);
    }

    private static void actions(Sentences s) {
        s.in("Terms, ACTIONS AND UNDO");
        s.holds("The methods in the section \"actions\" change the state, which consists of everything but the text and the save slots.",
            "new", "append 70 = 1", "turn = 15", "save 0 = 4", "append 97 = 2", "mirror = 4", "undo = 1", "figure = Fpapelela", "undo = 0",
            "figure = Faaeaeeae", "append 97 = 3", "errorPosition = 3", "restore 0 = 4", "figure = Fpapelela", "clearText = 3",
            behindOthers("move 0 2 14 15 = 427"), behindOthers("insert 0 0 1 0 = 442"), behindOthers("remove 1 0 = 446"),
            behindOthers("addHole 9 9 = 2"), behindOthers("dropHole 1 = 450"), behindOthers("shift 0 0 = 15"), behindOthers("turn = 15"),
            behindOthers("mirror = 15"));
        s.holds("Each call of one of them that does not throw an exception is an action, also if nothing becomes different (undo is none).",
            "new", "move 0 0 0 0 = 32", "shift 0 0 = 4", "move 0 0 -1 0 ! ISE", "move 0 2 0 0 ! ISE", "undo = 1", "undo = 0", "undo ! ISE",
            "given Faapappap", "addHole 1 1 = 1", "insert 1 1 2 2 = 448", "move 0 2 14 15 = 433", "remove 1 2 = 434", "dropHole 1 = 435",
            "shift 0 0 = 15", "turn = 15", "mirror = 15", "undo = 7", "undo = 6", "undo = 5", "undo = 4", "undo = 3", "undo = 2",
            "undo = 1", "undo = 0", "undo ! ISE", "figure = Faapappap");
        s.holds("Before each action, the state is remembered.", "given Faapappap", "addHole 1 1 = 1", "insert 1 1 2 2 = 448",
            "move 0 2 14 15 = 433", "remove 1 2 = 434", "turn = 15", "dropHole 1 = 435", "mirror = 15", "shift 0 0 = 15", "undo = 7",
            "figure = Faaappopa", "undo = 6", "figure = Fpappaoaa", "undo = 5", "figure = Fpappaoaa/obocnb", "undo = 4",
            "figure = Faapaopap/bbcbbc", "undo = 3", "figure = Faapaopap/bbcbccbc", "undo = 2", "figure = Faapappap/bbcbccbc",
            "undo = 1", "figure = Faapappap/bbcbbc", "undo = 0", "figure = Faapappap");
        s.holds("load and restore are not actions.", "new", "save 0 = 4", "turn = 15", "text Faaeaae", "restore 0 = 4", "undo ! ISE",
            "restore 0 = 4", "undo ! ISE", "load = 1", "undo ! ISE", "mirror = 15", "undo = 0", "undo ! ISE");
    }

    /** The action behind calls that try what would be, behind refused ones and behind undo. */
    private static String[] behindOthers(String action) {
        String figure = "Faapappap/cceceece";
        String given = "given " + figure;
        return new String[] {given, action, given, "whyNot 0 2 14 14 = 0", action, given, "whyNot 1 0 16 0 = 1", action, given,
            "bestMove = 0", action, given, BoundaryScripts.simulated(1, 60, figure), action, given, "runScript 1 401110 = NONE", action, given,
            "text Faaeaae", "errorPosition = NONE", action, given, "text Faae", "load ! ISE", action, given, "move 0 2 0 16 ! ISE", action, given,
            "turn = 15", "undo = 0", action, "undo = 0", "figure = " + figure};
    }

    private static void remembered(Sentences s) {
        s.holds("At most 14 states are remembered; when one more is remembered, the oldest one is forgotten.",
            // 13, 14 and 15 actions
            "new", "again 13 shift 0 0 = 4", "undo = 12", "new", "shift 0 1 = 4", "again 11 shift 1 0 = 15", "again 2 shift 0 1 = 15",
            "undo = 13", "figure = Flcpcpglg", "again 12 undo = 1", "undo = 0", "figure = Faaeaeeae", "undo ! ISE", "new", "shift 0 1 = 4",
            "again 11 shift 1 0 = 15", "again 3 shift 0 1 = 15", "undo = 13", "again 13 undo = 0", "figure = Fabebefaf", "undo ! ISE",
            // 29 actions: twice as many as can be remembered, and one more
            "new", "again 11 shift 1 0 = 15", "again 11 shift 0 1 = 15", "again 7 shift -1 0 = 8", "undo = 13", "again 13 undo = 0",
            "figure = Flepepili", "undo ! ISE",
            // after some were taken back, and after all were
            "new", "again 11 shift 1 0 = 15", "again 5 shift 0 1 = 15", "again 10 undo = 4", "figure = Fgakakege", "again 10 shift 0 1 = 10",
            "shift -1 0 = 9", "undo = 13", "figure = Fgkkkkogo", "again 13 undo = 0", "figure = Fdahahede", "undo ! ISE",
            "again 15 mirror = 12", "undo = 13", "again 13 undo = 0", "figure = Fmaiaieme", "undo ! ISE",
            // with the greatest figure
            "given " + FULL, "again 16 turn = 15", "again 12 undo = 2", "figure = " + FULL, "again 2 undo = 0", "undo ! ISE");
    }

    private static void move(Sentences s) {
        s.in("Promise 11");
        s.holds("Moves a corner.", "new", "move 0 0 1 1 = 24", "figure = Fbbeaeeae", "move 0 3 0 15 = 57", "figure = Fbbeaeeap",
            "given Faapappap/bbcbbc", "move 1 2 13 13 = 438", "figure = Faapappap/bbcbnn");
        s.holds("r: ring k: corner x: any number y: any number", "lived Faapappap/bbcbbc", "move 1 2 1 14 = 437", "move 0 3 0 14 = 422",
            "move 0 3 0 15 = 437", Steps.each("move 0 2 # 15 ! ISE", "-1", "16", "MIN", "MAX", "65551", "-65521", "1073741839"),
            Steps.each("move 0 2 15 # ! ISE", "-1", "16", "MIN", "MAX", "65551", "-65521", "1073741839"),
            Steps.each("move 1 2 # # ! ISE", "-1", "16", "MIN", "MAX", "65537"), "move 0 2 15 15 = 437");
        s.holds("Returns the doubled area of the figure then.", "new", "move 0 0 0 0 = 32", "move 0 2 15 15 = 120", "move 0 2 1 1 = 8",
            "given Faapappap/bbcbbc", "move 1 0 2 2 = 449", "move 0 2 14 15 = 434");
        s.holds("Throws IndexOutOfBoundsException if there is no such ring or corner", "lived Faapappap/bbcbbc", "move 1 2 1 2 = 449",
            Steps.each("move # 0 1 1 ! IOOBE", WRONG_RINGS), Steps.each("move 0 # 1 14 ! IOOBE", "-1", "4", "10", "MIN", "MAX"),
            Steps.each("move 1 # 1 14 ! IOOBE", "-1", "3", "MIN", "MAX"), "move 0 4 16 -1 ! IOOBE", "move 2 0 16 -1 ! IOOBE");
        s.holds("Throws IllegalStateException if a rule would not hold then (see whyNot)", "lived Faakakkak/ccdccd", "move 0 2 16 10 ! ISE",
            "move 0 2 10 0 ! ISE", "move 1 0 12 12 ! ISE", "move 0 2 5 0 ! ISE", "move 0 2 1 1 ! ISE", "move 0 2 10 10 = 199", "undo = 3");
    }

    private static void insert(Sentences s) {
        s.in("Promise 12");
        s.holds("Puts a corner in, behind another one.", "new", "insert 0 0 2 0 = 32", "figure = Faacaeaeeae", "insert 0 4 0 2 = 32",
            "figure = Faacaeaeeaeac");
        s.holds("r: ring k: corner; the new one gets the number k + 1, those behind it numbers that are greater by 1 x: any number"
            + " y: any number", "given " + Figures.TWO_HOLES, "insert 1 2 4 4 = 437", "figure = Faapappap/cccfffee/kkmkkm",
            "insert 1 0 2 3 = 437", "figure = Faapappap/cccdcfffee/kkmkkm", "insert 2 2 10 11 = 437",
            "figure = Faapappap/cccdcfffee/kkmkkmkl", "lived Faapappap/bbcbbc",
            Steps.each("insert 0 1 # 15 ! ISE", "-1", "16", "MIN", "MAX", "65551"),
            Steps.each("insert 0 3 0 # ! ISE", "-1", "16", "MIN", "MAX", "65543"), "insert 0 3 0 7 = 449");
        s.holds("Returns the doubled area of the figure then.", "new", "insert 0 1 15 2 = 76", "insert 0 0 2 0 = 76",
            "given Faapappap/bbcbbc", "insert 1 1 14 14 = 424");
        s.holds("Throws IndexOutOfBoundsException if there is no such ring or corner", "lived Faapappap/bbcbbc",
            Steps.each("insert # 0 1 1 ! IOOBE", WRONG_RINGS), Steps.each("insert 0 # 0 7 ! IOOBE", "-1", "4", "10", "MIN", "MAX"),
            Steps.each("insert 1 # 1 1 ! IOOBE", "-1", "3", "MIN", "MAX"), "insert 0 4 16 0 ! IOOBE", "insert 1 1 2 2 = 448",
            "insert 1 4 1 1 ! IOOBE", "lived " + FULL, "insert 0 10 1 0 ! IOOBE", "insert 0 -1 1 0 ! IOOBE", "insert 3 10 1 10 ! IOOBE",
            "insert 4 0 1 0 ! IOOBE");
        s.holds("Throws IllegalStateException if the ring has 10 corners, or a rule would not hold then",
            // 10, and 9 of them, in each ring
            "lived " + FULL, "insert 0 0 1 0 ! ISE", "insert 0 9 0 1 ! ISE", "insert 1 9 1 2 ! ISE", "insert 2 9 1 6 ! ISE",
            "insert 3 9 1 10 ! ISE", "remove 0 1 = 402", "insert 3 9 1 10 ! ISE", "insert 0 8 0 1 = 402", "insert 0 0 1 0 ! ISE",
            "remove 3 1 = 402", "insert 2 9 1 6 ! ISE", "insert 3 8 1 10 = 402", "insert 3 9 1 10 ! ISE",
            // rules 1 to 5
            "lived Faakakkak/ehfhei", "insert 0 2 5 16 ! ISE", "insert 0 2 10 10 ! ISE", "insert 0 2 5 -1 ! ISE", "insert 0 0 5 11 ! ISE",
            "insert 0 2 5 0 ! ISE", "insert 0 2 5 5 ! ISE", "insert 0 2 5 9 = 189");
    }

    private static void remove(Sentences s) {
        s.in("Promise 13");
        s.holds("Takes a corner out; those behind it get numbers that are smaller by 1.", "new", "remove 0 0 = 16", "figure = Feaeeae", "new",
            "remove 0 1 = 16", "figure = Faaeeae", "new", "remove 0 3 = 16", "figure = Faaeaee", "given Faapappap/bbdbddbd/kkmkkm",
            "remove 1 0 = 442", "figure = Faapappap/dbddbd/kkmkkm");
        s.holds("r: ring k: corner", "given " + FULL, "remove 3 9 = 404", "remove 0 4 = 314", "ring 0 0 = 9", "ring 3 0 = 9", "ring 1 0 = 10");
        s.holds("Returns the doubled area of the figure then.", "new", "remove 0 2 = 16", "given Faapappap/bbdbddbd", "remove 1 3 = 446",
            "given Faacaeaeeae", "remove 0 1 = 32");
        s.holds("Throws IndexOutOfBoundsException if there is no such ring or corner", "lived Faapappap/bbcbbc",
            Steps.each("remove # 0 ! IOOBE", WRONG_RINGS), Steps.each("remove 0 # ! IOOBE", "-1", "4", "10", "MIN", "MAX"),
            Steps.each("remove 1 # ! IOOBE", "-1", "3", "MIN", "MAX"), "new", "remove 0 3 = 16", "remove 0 3 ! IOOBE");
        s.holds("Throws IllegalStateException if the ring has 3 corners, or a rule would not hold then",
            // 3, and 4 of them, in the outline and in a hole
            "lived Faapaap/bbcbbc", Steps.each("remove 0 # ! ISE", "0", "1", "2"), Steps.each("remove 1 # ! ISE", "0", "1", "2"),
            "insert 1 0 2 1 ! ISE", "insert 1 1 2 2 = 223", "remove 1 0 = 224", "remove 1 0 ! ISE", "insert 0 2 0 1 = 224",
            "remove 0 3 = 224", "remove 0 2 ! ISE",
            // the rules 3, 4 and 5 (no other can break)
            "lived Faakakkffidag", "remove 0 2 ! ISE", "lived Faaiaiieeai", "remove 0 1 ! ISE", "remove 0 0 ! ISE",
            "lived Faakakkak/hhjhhj", "remove 0 2 ! ISE", "remove 0 0 = 96");
    }

    private static void addHole(Sentences s) {
        s.in("Promise 14");
        s.holds("Adds a hole with the corners (x, y), (x + 1, y), (x, y + 1).", "given Faapappap", "addHole 3 7 = 1",
            "figure = Faapappap/dhehdi", "ring 1 2 = 1");
        s.holds("x: 0 to 14 y: 0 to 14", "given Faapappap", "addHole 0 7 ! ISE", "addHole 14 7 ! ISE", "addHole 7 0 ! ISE", "addHole 7 14 ! ISE",
            "addHole 15 7 ! IAE", "addHole -1 7 ! IAE", "addHole 7 15 ! IAE", "addHole 7 -1 ! IAE", "addHole 1 1 = 1", "addHole 13 13 = 2",
            "addHole 13 1 = 3");
        s.holds("Returns its ring.", "given Faapappap", "addHole 1 1 = 1", "addHole 4 1 = 2", "addHole 7 1 = 3", "dropHole 1 = 448",
            "addHole 1 1 = 3");
        s.holds("Throws IllegalArgumentException if x or y is out of range", "lived Faapappap",
            Steps.each("addHole # 7 ! IAE", "-1", "15", "16", "MIN", "MAX"), Steps.each("addHole 7 # ! IAE", "-1", "15", "16", "MIN", "MAX"),
            "lived " + FULL, "addHole 15 7 ! IAE", "addHole 7 -1 ! IAE");
        s.holds("Throws IllegalStateException if there are 4 rings, or a rule would not hold then", "lived Faapappap/bbcbbc/ebfbec",
            "addHole 10 10 = 3", "addHole 6 6 ! ISE", "undo = 3", "addHole 6 6 = 3", "addHole 10 10 ! ISE", "lived " + FULL,
            "addHole 10 10 ! ISE", "dropHole 3 = 418", "addHole 10 10 = 3",
            // the rules 3, 4 and 5 (no other can break)
            "lived Faapaai", "addHole 7 4 ! ISE", "addHole 0 4 ! ISE", "addHole 10 10 ! ISE", "addHole 7 3 = 1", "addHole 7 3 ! ISE",
            "lived Faapappap/bbnbbn", "addHole 4 4 ! ISE", "addHole 13 13 = 2");
    }

    private static void dropHole(Sentences s) {
        s.in("Promise 15");
        s.holds("Removes a hole; rings behind it get numbers that are smaller by 1.", "given Faapappap/bbcbbc/eehehhfg/kkmkkm",
            "dropHole 1 = 434", "figure = Faapappap/eehehhfg/kkmkkm", "dropHole 2 = 438", "figure = Faapappap/eehehhfg", "given " + FULL,
            "dropHole 2 = 418", "ring 2 0 = 10", "corner 2 0 1 = 9", "corner 1 0 1 = 1");
        s.holds("r: ring", "given " + FULL, "dropHole 3 = 418", "dropHole 1 = 434", "dropHole 1 = 450", "dropHole 1 ! IOOBE");
        s.holds("Returns the doubled area of the figure then.", "given " + Figures.TWO_HOLES, "dropHole 2 = 441", "dropHole 1 = 450",
            "given Faapappap/bboboobo", "dropHole 1 = 450");
        s.holds("Throws IndexOutOfBoundsException if there is no such ring", "lived Faapappap/bbcbbc",
            Steps.each("dropHole # ! IOOBE", WRONG_RINGS), "lived " + FULL, "dropHole 4 ! IOOBE", "lived Faapaap", "dropHole 1 ! IOOBE");
        s.holds("Throws IllegalStateException if it is the outline", "lived Faapappap/bbcbbc", "dropHole 0 ! ISE", "dropHole 1 = 450",
            "dropHole 0 ! ISE");
    }

    private static void shift(Sentences s) {
        s.in("Promise 16");
        s.holds("Shifts the whole figure.", "given Faaiaai/bbdbbd", "shift 7 6 = 15", "figure = Fhgpgho/ihkhij", "shift -7 -6 = 8",
            "figure = Faaiaai/bbdbbd");
        s.holds("dx: -15 to 15: how much greater each x becomes", "given Faabaab", "shift 14 0 = 15", "figure = Foapaob", "shift -14 0 = 1",
            "figure = Faabaab", "shift 15 0 ! ISE", "shift -15 0 ! ISE", "shift 16 0 ! IAE", "shift -16 0 ! IAE");
        s.holds("dy: -15 to 15: how much greater each y becomes", "given Faabaab", "shift 0 14 = 1", "figure = Faoboap", "shift 0 -14 = 1",
            "figure = Faabaab", "shift 0 15 ! ISE", "shift 0 -15 ! ISE", "shift 0 16 ! IAE", "shift 0 -16 ! IAE");
        s.holds("Returns the greatest x of a corner then.", "given Faabaab", "shift 0 0 = 1", "shift 14 14 = 15", "shift -14 0 = 1",
            "given Faapbab", "shift 1 0 ! ISE", "shift 0 0 = 15", "given Fffhffh", "shift -5 -5 = 2");
        s.holds("Throws IllegalArgumentException if dx or dy is out of range", "lived Faabaab",
            Steps.each("shift # 0 ! IAE", "-16", "16", "MIN", "MAX"), Steps.each("shift 0 # ! IAE", "-16", "16", "MIN", "MAX"),
            "shift 15 16 ! IAE", "shift -16 -15 ! IAE");
        s.holds("Throws IllegalStateException if a corner would leave the paper", "lived Fccncnnbn/eefeef", "shift 3 0 ! ISE", "shift -2 0 ! ISE",
            "shift 0 3 ! ISE", "shift 0 -3 ! ISE", "shift 15 15 ! ISE", "shift -15 -15 ! ISE", "shift 2 2 = 15", "shift -3 -4 = 12",
            "undo = 4");
    }

    private static void turnAndMirror(Sentences s) {
        s.in("Promise 17");
        s.holds("Turns the whole figure by a quarter: each corner (x, y) comes to (15 - y, x).", "given Faapaap/bbcbbc", "turn = 15",
            "figure = Fpappaa/obocnb", "turn = 15", "figure = Fppappa/oonoon", "ring 0 2 = 1", "turn = 15", "turn = 15",
            "figure = Faapaap/bbcbbc", "new", "turn = 15", "figure = Fpapelela");
        s.holds("Returns the greatest x of a corner then.", "given Faabaab", "turn = 15", "turn = 15", "turn = 1", "turn = 1",
            "given Fffhffh", "turn = 10", "turn = 10", "turn = 7", "turn = 7");
        s.in("Promise 18");
        s.holds("Mirrors the whole figure: each corner (x, y) comes to (15 - x, y).", "given Faapaap/bbcbbc", "mirror = 15",
            "figure = Fpaaapp/obnboc", "ring 0 2 = 0", "mirror = 15", "figure = Faapaap/bbcbbc", "new", "mirror = 15", "figure = Fpalalepe");
        s.holds("Returns the greatest x of a corner then.", "given Faabaab", "mirror = 15", "mirror = 1", "given Fffhffh", "mirror = 10",
            "mirror = 7");
    }

    private static void undo(Sentences s) {
        s.in("Promise 19");
        s.holds("Takes back the last action that is remembered.", "new", "turn = 15", "mirror = 4", "undo = 1", "figure = Fpapelela", "undo = 0",
            "figure = Faaeaeeae", "mirror = 15", "undo = 0", "figure = Faaeaeeae", "lived Faapappap/bbcbbc", "dropHole 1 = 450", "undo = 3",
            "figure = Faapappap/bbcbbc", "addHole 4 1 = 2", "undo = 3", "figure = Faapappap/bbcbbc");
        s.holds("Returns how many states are still remembered.", "new", "turn = 15", "undo = 0", "again 13 turn = 15", "undo = 12",
            "again 2 turn = 15", "undo = 13", "again 5 turn = 15", "undo = 13", "again 13 undo = 0");
        s.holds("Throws IllegalStateException if none is remembered", "new", "undo ! ISE", "move 0 0 16 0 ! ISE", "undo ! ISE", "turn = 15",
            "undo = 0", "undo ! ISE", "lived Faapaap", "again 3 undo = 0", "undo ! ISE", "save 0 = 3", "turn = 15", "restore 0 = 3",
            "undo ! ISE");
    }
}
