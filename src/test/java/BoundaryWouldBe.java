/** The promises 20 to 24. */
final class BoundaryWouldBe {
    private BoundaryWouldBe() {
    }

    static void hold(Sentences s) {
        whyNot(s);
        cut(s);
        bestMove(s);
        inRow(s);
        cuttings(s);
    }

    private static void whyNot(Sentences s) {
        s.in("Promise 20");
        s.holds("Tells why a corner cannot be moved.", "new", "whyNot 0 2 16 4 = 1", "whyNot 0 2 4 0 = 2", "whyNot 0 1 2 6 = 3",
            "whyNot 0 2 2 0 = 4", "whyNot 0 2 5 5 = 0", "figure = Faaeaeeae", "undo ! ISE");
        s.holds("r: ring k: corner x: any number y: any number", "lived Faapappap/bbcbbc", "whyNot 0 3 0 14 = 0", "whyNot 1 2 1 14 = 0",
            "whyNot 1 2 1 15 = 4", "whyNot 0 2 15 15 = 0", Steps.each("whyNot 0 2 # 15 = 1", "-1", "16", "MIN", "MAX", "65551", "1073741839"),
            Steps.each("whyNot 0 2 15 # = 1", "-1", "16", "MIN", "MAX", "65551", "1073741839"),
            Steps.each("whyNot 1 2 # # = 1", "-1", "16", "MIN", "MAX", "65538"));
        s.holds("Returns 0 if move(r, k, x, y) would not throw an exception, otherwise the first one of the rules 1 to 5 that would not"
            + " hold then.",
            // each rule, and 0 beside it
            "lived Faakakkak/ccdccd", "whyNot 0 2 15 15 = 0", "move 0 2 15 15 = 299", "whyNot 0 2 16 15 = 1", "move 0 2 16 15 ! ISE",
            "whyNot 0 2 10 0 = 2", "move 0 2 10 0 ! ISE", "whyNot 1 0 15 14 = 3", "move 1 0 15 14 ! ISE", "whyNot 0 2 5 0 = 4",
            "move 0 2 5 0 ! ISE", "whyNot 0 2 1 1 = 5", "move 0 2 1 1 ! ISE", "whyNot 0 2 15 15 = 0", "move 0 2 15 15 = 299",
            // the first one of several: 1 of 1 and 5, 2 of 2 and 3, 2 of 2 and 5, 3 of 3 and 4, 3 of 3 and 5, 4 of 4 and 5
            "lived Faakakkak/hhihhi", "whyNot 1 0 16 10 = 1", "whyNot 0 2 10 0 = 2", "whyNot 1 1 12 12 = 3", "whyNot 0 2 7 7 = 4",
            "whyNot 0 2 6 6 = 5", "lived Faakakkffidag", "whyNot 0 2 5 5 = 2", "whyNot 0 2 10 10 = 0", "lived " + Figures.NOTCH,
            "whyNot 0 0 6 2 = 3", "whyNot 0 0 0 0 = 0");
        s.holds("Throws IndexOutOfBoundsException if there is no such ring or corner", "lived Faapappap/bbcbbc", "whyNot 1 2 1 2 = 0",
            Steps.each("whyNot # 0 1 1 ! IOOBE", "-1", "2", "3", "4", "MIN", "MAX"),
            Steps.each("whyNot 0 # 15 15 ! IOOBE", "-1", "4", "10", "MIN", "MAX"),
            Steps.each("whyNot 1 # 1 1 ! IOOBE", "-1", "3", "MIN", "MAX"), "whyNot 0 4 16 16 ! IOOBE", "whyNot 2 0 16 16 ! IOOBE");
    }

    private static void cut(Sentences s) {
        s.in("Promise 21");
        s.holds("Tells what a cut would take away.", "new", "cut 0 = 16", "figure = Faaeaeeae", "undo ! ISE");
        s.holds("k: corner of the outline", "given " + Figures.ROUND, "cut 0 = 15", "cut 9 = 12", "cut 10 ! IOOBE", "cut -1 ! IOOBE");
        s.holds("Returns the doubled area of the triangle of it and the corners before and behind it if it is an ear, otherwise NONE.",
            "given " + Figures.NOTCH, "cut 0 = NONE", "cut 1 = NONE", "cut 2 = 16", "cut 3 = 12", "cut 4 = NONE", "cut 5 = NONE",
            "cut 6 = 12", "cut 7 = 16", "mirror = 15", "cut 0 = NONE", "cut 2 = 16", "cut 3 = 12", "cut 4 = NONE", "cut 7 = 16",
            "given Faaeaae", "cut 0 = NONE", "cut 2 = NONE", "given Faacacbab", "cut 0 = 2",
            "given Fcaeaeeaeaa", "cut 0 = NONE", "cut 1 = 8", "given Faapappap/hbjbhd", "cut 1 = 225", "given Faapappap/hhjhhj",
            "cut 1 = NONE");
        s.holds("Throws IndexOutOfBoundsException if the outline has no such corner", "lived Faapappap/bbdbddcfbd", "cut 2 = 225",
            Steps.each("cut # ! IOOBE", "-1", "4", "5", "10", "MIN", "MAX"), "new", "remove 0 3 = 16", "cut 2 = NONE", "cut 3 ! IOOBE");
    }

    private static void bestMove(Sentences s) {
        s.in("Promise 22");
        s.holds("Finds the move that makes the figure greatest.", "new", "bestMove = 10", "move 0 1 5 0 = 36", "figure = Faafaeeae",
            "bestMove = 21", "undo = 0");
        s.holds("Returns 10 * k + d for the corner k of the outline and the direction d (0: x greater by 1; 1: y greater by 1; 2: x smaller"
            + " by 1; 3: y smaller by 1) of the move that is possible and behind which the doubled area of the figure is greatest (also if"
            + " it is less than now), of several the smallest number; NONE if no such move is possible.",
            // each direction, and the tenth corner
            "given Faaoappap", "bestMove = 10", "given Faapappao", "bestMove = 31", "given Fbapappap", "bestMove = 2",
            "given Fabpappap", "bestMove = 3", "given Faadagajamapappkpfpao", "bestMove = 91",
            // less than now; several; one beside a hole that is in the way of others; none
            "given Faapappap", "bestMove = 0", "given Fpapiha", "bestMove = 11", "given Faabaab", "bestMove = 10", "given Faaabba",
            "bestMove = 11", "given Faapappap/bbcbbc", "bestMove = 0", "given Facppda/cbdbcc", "bestMove = 12", "dropHole 1 = 69", "bestMove = 20",
            "given " + Figures.STUCK, "bestMove = NONE", "mirror = 15", "bestMove = NONE", "turn = 15", "bestMove = NONE", "mirror = 15",
            "bestMove = NONE", "given " + Figures.STUCK, "dropHole 1 = 69", "bestMove = 20");
    }

    private static void inRow(Sentences s) {
        s.in("Promise 23");
        s.holds("Counts points of a row of the paper.", "given Faapaap",
            "inRow 0 true = 16", "inRow 1 true = 15", "inRow 15 true = 1", "inRow 14 true = 2", "inRow 1 false = 13", "undo ! ISE");
        s.holds("y: 0 to 15", "given Faapappap", "inRow 0 true = 16", "inRow 15 true = 16", "inRow -1 true ! IAE", "inRow 16 true ! IAE");
        s.holds("border: whether those on the border are counted, too", "given Faapappap", "inRow 0 false = 0", "inRow 0 true = 16",
            "inRow 15 false = 0", "inRow 15 true = 16", "inRow 14 false = 14", "inRow 14 true = 16");
        s.holds("Returns the number of points (x, y) inside the figure (or on its border).", "given Faabaab", "inRow 0 true = 2",
            "inRow 0 false = 0", "inRow 1 true = 1", "inRow 2 true = 0", "inRow 15 true = 0", "given " + Figures.TWO_HOLES,
            "inRow 2 false = 13", "inRow 2 true = 16", "inRow 3 false = 12", "inRow 3 true = 16", "inRow 4 false = 11", "inRow 4 true = 15",
            "inRow 5 false = 10", "inRow 5 true = 16", "given Faapappap/bboboobo", "inRow 7 false = 0", "inRow 7 true = 4",
            "given " + Figures.NOTCH, "inRow 5 true = 6", "inRow 5 false = 2", "inRow 2 false = 2", "inRow 2 true = 9", "inRow 8 false = 0");
        s.holds("Throws IllegalArgumentException if y is out of range", "lived Faapappap/bbcbbc",
            Steps.each("inRow # true ! IAE", "-1", "16", "MIN", "MAX"), Steps.each("inRow # false ! IAE", "-1", "16", "MIN", "MAX"),
            "inRow 15 true = 16");
    }

    private static void cuttings(Sentences s) {
        s.in("Promise 24");
        s.holds("Counts ways to cut the outline.", "new", "cuttings = 2", "figure = Faaeaeeae", "undo ! ISE");
        s.holds("Returns into how many sets of triangles the outline can be cut by lines between corners of it that see each other, no two"
            + " of which cross, as many as can be (1 if it has 3 corners); NONE if there are holes, or a straight corner of the outline.",
            // 3, 4, 5 and 10 corners, none hollow
            "given Faabaab", "cuttings = 1", "new", "cuttings = 2", "given Faaeagcdeac", "cuttings = 5", "given " + Figures.ROUND,
            "cuttings = 1430", "mirror = 15", "cuttings = 1430",
            // a hollow corner, a straight one (the first, the last), holes
            "given Faaeabbae", "cuttings = 1", "given Fbbaeaaea", "cuttings = 1", "given Feaeeaeaaca", "cuttings = NONE",
            "given Fcaeaeeaeaa", "cuttings = NONE", "move 0 0 2 1 = 28", "cuttings = 3", "given Faapappap/bbcbbc", "cuttings = NONE",
            "dropHole 1 = 450", "cuttings = 2", "given Faaiaai/bbcbbc", "cuttings = NONE", "dropHole 1 = 64", "cuttings = 1",
            "given " + Figures.FULL, "cuttings = NONE");
    }
}
