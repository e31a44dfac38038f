/** What the terms say of exceptions, and of the groups of calls. */
final class BoundaryExceptions {
    private static final String HOLED = "Faapappap/bbcbbc";
    private static final String LIVED = "lived " + HOLED;
    private static final String[] WRONG_RINGS = {"-1", "2", "3", "4", "MIN", "MAX"};
    private static final String[] WRONG_CORNERS = {"-1", "4", "9", "10", "MIN", "MAX"};

    private BoundaryExceptions() {
    }

    static void hold(Sentences s) {
        index(s);
        argument(s);
        state(s);
        several(s);
        nothingChanges(s);
        face(s);
        calls(s);
    }

    private static void index(Sentences s) {
        s.in("Terms, EXCEPTIONS");
        s.holds("IndexOutOfBoundsException means that a ring or a corner does not exist, or that a save slot is not 0 or 1.", LIVED,
            "ring 0 0 = 4", "ring 1 0 = 3", Steps.each("ring # 0 ! IOOBE", WRONG_RINGS), Steps.each("corner # 0 0 ! IOOBE", WRONG_RINGS),
            Steps.each("corner 0 # 0 ! IOOBE", WRONG_CORNERS), Steps.each("sees # 0 0 0 ! IOOBE", WRONG_RINGS),
            Steps.each("sees 0 0 0 # ! IOOBE", WRONG_CORNERS), Steps.each("move # 0 1 1 ! IOOBE", WRONG_RINGS),
            Steps.each("move 0 # 1 1 ! IOOBE", WRONG_CORNERS), Steps.each("insert # 0 1 0 ! IOOBE", WRONG_RINGS),
            Steps.each("insert 0 # 1 0 ! IOOBE", WRONG_CORNERS), Steps.each("remove # 0 ! IOOBE", WRONG_RINGS),
            Steps.each("remove 0 # ! IOOBE", WRONG_CORNERS), Steps.each("dropHole # ! IOOBE", WRONG_RINGS),
            Steps.each("whyNot # 0 1 1 ! IOOBE", WRONG_RINGS), Steps.each("whyNot 0 # 1 1 ! IOOBE", WRONG_CORNERS),
            Steps.each("cut # ! IOOBE", WRONG_CORNERS), Steps.each("save # ! IOOBE", "-1", "2", "MIN", "MAX"),
            Steps.each("restore # ! IOOBE", "-1", "2", "MIN", "MAX"));
    }

    private static void argument(Sentences s) {
        s.holds("IllegalArgumentException means that another argument is out of its range.", LIVED,
            Steps.each("append # ! IAE", "-1", "256", "MIN", "MAX"), Steps.each("about # ! IAE", "-1", "10", "MIN", "MAX"),
            Steps.each("ring 1 # ! IAE", "-1", "6", "MIN", "MAX"), Steps.each("corner 1 2 # ! IAE", "-1", "6", "MIN", "MAX"),
            Steps.each("point # 15 ! IAE", "-1", "16", "MIN", "MAX"), Steps.each("point 15 # ! IAE", "-1", "16", "MIN", "MAX"),
            Steps.each("addHole # 7 ! IAE", "-1", "15", "MIN", "MAX"), Steps.each("addHole 7 # ! IAE", "-1", "15", "MIN", "MAX"),
            Steps.each("shift # 0 ! IAE", "-16", "16", "MIN", "MAX"), Steps.each("shift 0 # ! IAE", "-16", "16", "MIN", "MAX"),
            Steps.each("inRow # true ! IAE", "-1", "16", "MIN", "MAX"), Steps.each("inRow # false ! IAE", "-1", "16", "MIN", "MAX"),
            Steps.each("runScript # 600000 ! IAE", "-1", "0", "4", "MIN", "MAX"),
            Steps.each("runScript 1 # ! IAE", "-1", "1000000", "LMIN", "LMAX"),
            Steps.each("simulate 7 # ! IAE", "-1", "0", "61", "MIN", "MAX"));
    }

    private static void state(Sentences s) {
        s.holds("IllegalStateException means what the method says.", LIVED, "restore 0 ! ISE", "dropHole 0 ! ISE", "shift 1 0 ! ISE",
            "addHole 1 1 ! ISE", "move 0 0 16 0 ! ISE", "insert 0 0 16 0 ! ISE", "remove 1 0 ! ISE", "clearText = 16", "load ! ISE",
            "again 90 append 70 = 90", "append 70 ! ISE", "again 3 undo = 0", "undo ! ISE");
    }

    private static void several(Sentences s) {
        s.holds("If several exceptions apply to a call, the one that its description names first is thrown.",
            // an argument that is out of range, or a full text, four rings, a corner that would leave the paper
            LIVED, "again 74 append 97 = 90", "append 256 ! IAE", "append -1 ! IAE", "append 97 ! ISE", "lived " + Figures.FULL,
            "addHole 15 1 ! IAE", "addHole 1 -1 ! IAE", "addHole 7 7 ! ISE", LIVED, "shift 16 15 ! IAE", "shift -15 -16 ! IAE",
            "shift 15 15 ! ISE", "addHole 15 1 ! IAE", "addHole 1 1 ! ISE",
            // a ring or corner that does not exist, or another argument that is out of range
            LIVED, "ring 2 6 ! IOOBE", "ring -1 -1 ! IOOBE", "ring 1 6 ! IAE", "corner 2 0 6 ! IOOBE", "corner 1 3 6 ! IOOBE",
            "corner 1 2 6 ! IAE",
            // a ring or corner that does not exist, or a ring that is full, or has but 3 corners, or a rule
            LIVED, "move 0 4 16 16 ! IOOBE", "move 2 0 16 16 ! IOOBE", "move 0 3 16 16 ! ISE", "remove 1 3 ! IOOBE", "remove 2 0 ! IOOBE",
            "remove 1 2 ! ISE", "insert 1 3 16 16 ! IOOBE", "insert 1 2 16 16 ! ISE", "lived " + Figures.FULL, "insert 0 10 1 0 ! IOOBE",
            "insert 0 9 16 16 ! ISE", "insert 4 0 1 0 ! IOOBE",
            // a slot that does not exist, or is empty
            "new", "restore 2 ! IOOBE", "restore -1 ! IOOBE", "restore 1 ! ISE");
    }

    private static void nothingChanges(Sentences s) {
        s.holds("A call that throws an exception changes nothing.",
            // Runner looks behind each call that is refused; this run tells the same in its answers
            LIVED, "move 0 0 1 1 ! ISE", "move 0 0 16 0 ! ISE", "move 2 0 1 1 ! IOOBE", "insert 0 0 16 0 ! ISE", "insert 2 0 1 1 ! IOOBE",
            "remove 1 0 ! ISE", "remove 1 3 ! IOOBE", "addHole 1 1 ! ISE", "addHole 15 1 ! IAE", "dropHole 0 ! ISE", "dropHole 2 ! IOOBE",
            "shift 1 0 ! ISE", "shift 16 0 ! IAE", "restore 0 ! ISE", "restore 2 ! IOOBE", "save 2 ! IOOBE", "append 256 ! IAE",
            "figure = Faapappap/bbcbbc", "undo = 2", "undo = 1", "figure = Fpaaaappp/obnboc", "undo = 0",
            "undo ! ISE", "figure = Faapappap/bbcbbc", "errorPosition = NONE", "append 97 = 17", "load ! ISE", "restore 1 = 7",
            "restore 0 ! ISE", "figure = Fpaaaappp/obnboc");
    }

    private static void face(Sentences s) {
        s.in("Terms, the face");
        s.holds("The constants: NONE = -9: There is no such result.", "constant NONE = -9", "given Faaeaae", "cut 0 = -9",
            "errorPosition = -9", "given " + Figures.STUCK, "bestMove = -9", "cuttings = -9", "runScript 1 700000 = -9");
    }

    private static void calls(Sentences s) {
        s.holds("Ahead of the calls append, clearText, errorPosition, load the interface says: ---- text.", "new", "append 70 = 1",
            "errorPosition = 1", "clearText = 1", "undo ! ISE", "figure = Faaeaeeae", "text Faaeaae", "load = 1", "undo ! ISE");
        s.holds("Ahead of the calls about, ring, corner, point, sees the interface says: ---- the figure.", LIVED, "about 9 = 12",
            "ring 1 5 = 2", "corner 1 2 5 = 1", "point 15 15 = 1", "sees 0 0 1 0 = true", "undo = 2");
        s.holds("Ahead of the calls move, insert, remove, addHole, dropHole, shift, turn, mirror, undo the interface says: ---- actions.",
            "given Faapappap", "addHole 1 1 = 1", "undo = 0", "insert 0 0 1 0 = 450", "undo = 0", "move 0 0 1 0 = 435", "undo = 0",
            "remove 0 3 = 225", "undo = 0", "shift 0 0 = 15", "undo = 0", "turn = 15", "undo = 0", "mirror = 15", "undo = 0",
            "addHole 1 1 = 1", "dropHole 1 = 450", "undo = 1", "undo = 0", "figure = Faapappap", "undo ! ISE");
        s.holds("Ahead of the calls whyNot, cut, bestMove, inRow, cuttings the interface says: ---- what would be; these and all following"
            + " methods up to the save slots change nothing.", LIVED, "whyNot 0 2 14 14 = 0", "whyNot 0 2 16 14 = 1",
            "whyNot 1 0 15 15 = 4", "cut 2 = 225", "bestMove = 0", "inRow 15 true = 16", "cuttings = NONE",
            "runScript 3 120101401010600000 = 0", "runScript 3 121414600000610000 = NONE", BoundaryScripts.simulated(5, 60, HOLED),
            "undo = 2", "new", "bestMove = 10", "cuttings = 2", "cut 0 = 16", "runScript 2 121515600000 = NONE", "whyNot 0 2 15 15 = 0",
            "undo ! ISE", "figure = Faaeaeeae");
        s.holds("Ahead of the calls runScript, simulate the interface says: ---- scripts, simulations.", "new", "runScript 1 121515 = NONE",
            BoundaryScripts.simulated(0, 60, Figures.SQUARE), "figure = Faaeaeeae", "undo ! ISE");
        s.holds("Ahead of the calls save, restore the interface says: ---- save slots.", "new", "save 0 = 4", "undo ! ISE", "restore 0 = 4",
            "undo ! ISE");
    }
}
