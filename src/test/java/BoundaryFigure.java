/** Promise 1, and the questions of the promises 6 to 10. */
final class BoundaryFigure {
    private static final String WHOLE = Figures.WHOLE;
    private static final String TINY = "given " + Figures.TINY;
    private static final String FULL = "given " + Figures.FULL;
    private static final String ROUND = "given " + Figures.ROUND;
    private static final String TWO_HOLES = "given " + Figures.TWO_HOLES;

    private BoundaryFigure() {
    }

    static void hold(Sentences s) {
        promise1(s);
        promise6(s);
        promise6Sight(s);
        promise7(s);
        promise8(s);
        promise8Numbers(s);
        promise9(s);
        promise10(s);
    }

    private static void promise1(Sentences s) {
        s.in("Promise 1");
        s.holds("Creates a square of 4 by 4.", "new", "figure = Faaeaeeae", "about 2 = 32", "ring 0 5 = 16", "clearText = 0",
            "undo ! ISE", "restore 0 ! ISE", "restore 1 ! ISE");
    }

    private static void promise6(Sentences s) {
        s.in("Promise 6");
        s.holds("Returns a number.", "lived Faapappap/bbcbbc", "about 0 = 2", "about 9 = 12", "undo = 2");
        s.holds("0: the number of rings;", TINY, "about 0 = 1", FULL, "about 0 = 4", "dropHole 3 = 418", "about 0 = 3");
        s.holds("1: of all corners;", TINY, "about 1 = 3", FULL, "about 1 = 40", "remove 3 1 = 402", "about 1 = 39");
        s.holds("2: the doubled area of the figure;", TINY, "about 2 = 1", "given " + WHOLE, "about 2 = 450", FULL, "about 2 = 402",
            ROUND, "about 2 = 354");
        s.holds("3: the number of points of the paper on its border;", TINY, "about 3 = 3", "given " + WHOLE, "about 3 = 60", FULL,
            "about 3 = 96", ROUND, "about 3 = 22", TWO_HOLES, "about 3 = 75");
        s.holds("4: of those inside it;", TINY, "about 4 = 0", "given " + WHOLE, "about 4 = 196", FULL, "about 4 = 151", ROUND,
            "about 4 = 167", TWO_HOLES, "about 4 = 180", "given Faapappap/bboboobo", "about 4 = 0");
        s.holds("5: of pointed corners of the outline;", TINY, "about 5 = 3", ROUND, "about 5 = 10", FULL, "about 5 = 4",
            "given " + Figures.STAR, "about 5 = 4", "mirror = 15", "about 5 = 4", "given Fcaeaeeaeaa", "about 5 = 4",
            "given Faahbpcap", "about 5 = 3");
        s.holds("6: of hollow ones of it;", TINY, "about 6 = 0", ROUND, "about 6 = 0", FULL, "about 6 = 0", "given " + Figures.STAR,
            "about 6 = 4", "mirror = 15", "about 6 = 4", "given Faahbpcap", "about 6 = 1", "given Faaibpcap", "about 6 = 0",
            "given Faapappap/bbbkddkb", "about 6 = 0");
        s.holds("8: the doubled area of the hull of the outline (the smallest convex figure that has all its corners);", TINY,
            "about 8 = 1", "given " + WHOLE, "about 8 = 450", FULL, "about 8 = 450", ROUND, "about 8 = 354", "given " + Figures.STAR,
            "about 8 = 450", "mirror = 15", "about 8 = 450", "given " + Figures.NOTCH, "about 8 = 128", "given Fcaeaeeaeaa",
            "about 8 = 32", "given Faaeabbae", "about 8 = 16", "given Faaaeeeea", "about 8 = 32");
        s.holds("Returns that number.", "new", "about 0 = 1", "about 1 = 4", "about 2 = 32", "about 3 = 16", "about 4 = 9",
            "about 5 = 4", "about 6 = 0", "about 7 = 4", "about 8 = 32", "about 9 = 2");
        s.holds("Throws IllegalArgumentException if what is not 0 to 9", "lived Faapappap/bbcbbc", "about 0 = 2", "about 9 = 12",
            "about -1 ! IAE", "about 10 ! IAE", "about MIN ! IAE", "about MAX ! IAE");
    }

    private static void promise6Sight(Sentences s) {
        s.holds("what: 0:", TINY, "about 0 = 1", "about -1 ! IAE");
        s.holds("7: of its ears;", "given Faaeaae", "about 7 = 0", "new", "about 7 = 4", ROUND, "about 7 = 10", FULL, "about 7 = 2",
            "given Faaeabbae", "about 7 = 2", "given " + Figures.STAR, "about 7 = 4", "given Fcaeaeeaeaa", "about 7 = 4",
            "given Faapappap/hhjhhj", "about 7 = 0");
        s.holds("9: the number of pairs of corners that see each other", "given Faaeaae", "about 9 = 0", "new", "about 9 = 2", ROUND,
            "about 9 = 35", "given Faapappap/hhjhhj", "about 9 = 9", "given Fcaeaeeaeaa", "about 9 = 4", "given Faaeabbae", "about 9 = 1");
    }

    private static void promise7(Sentences s) {
        s.in("Promise 7");
        s.holds("Returns a number of a ring. r: ring", FULL, "ring 0 1 = 450", "ring 1 1 = 16", "ring 3 1 = 16", "ring 4 1 ! IOOBE",
            "ring -1 1 ! IOOBE");
        s.holds("what: 0: the number of its corners;", TINY, "ring 0 0 = 3", FULL, "ring 0 0 = 10", "ring 3 0 = 10", "remove 3 1 = 402",
            "ring 3 0 = 9", "ring 2 0 = 10");
        s.holds("1: its doubled area;", TINY, "ring 0 1 = 1", TWO_HOLES, "ring 0 1 = 450", "ring 1 1 = 9", "ring 2 1 = 4");
        s.holds("2: 1 if it goes left, otherwise 0;", TWO_HOLES, "ring 0 2 = 1", "ring 1 2 = 0", "ring 2 2 = 1", "turn = 15", "ring 0 2 = 1",
            "ring 1 2 = 0", "mirror = 15", "ring 0 2 = 0", "ring 1 2 = 1", "ring 2 2 = 0");
        s.holds("3: the number of points of the paper on its sides;", TINY, "ring 0 3 = 3", TWO_HOLES, "ring 0 3 = 60", "ring 1 3 = 9",
            "ring 2 3 = 6", "given Faaeaeg", "ring 0 3 = 12");
        s.holds("4: the side of it with the greatest square of its length, of several the first one;", "new", "ring 0 4 = 0",
            "given Faacacfaf", "ring 0 4 = 1", "given Faaeaeg", "ring 0 4 = 2", TWO_HOLES, "ring 0 4 = 0", "ring 1 4 = 2", "ring 2 4 = 1",
            // the next ring's first side is longer
            "given Faapappap/bbcbbc/eemeem", "ring 1 4 = 1", "ring 1 5 = 2", "ring 2 4 = 1", "ring 2 5 = 128",
            "given Faaaffffa", "ring 0 4 = 0", "remove 0 0 = 25", "ring 0 4 = 2");
        s.holds("5: that square", TINY, "ring 0 5 = 2", "given Faappap", "ring 0 5 = 450", "given Faacacfaf", "ring 0 5 = 25", TWO_HOLES,
            "ring 1 5 = 18", "ring 2 5 = 8");
        s.holds("Returns that number.", "new", "ring 0 0 = 4", "ring 0 1 = 32", "ring 0 2 = 1", "ring 0 3 = 16", "ring 0 4 = 0",
            "ring 0 5 = 16");
        s.holds("Throws IndexOutOfBoundsException if there is no such ring", "lived Faapappap/bbcbbc", "ring 1 0 = 3",
            Steps.each("ring # 0 ! IOOBE", "-1", "2", "3", "4", "MIN", "MAX"), "ring 2 6 ! IOOBE", "ring -1 -1 ! IOOBE", "new",
            "ring 0 0 = 4", "ring 1 0 ! IOOBE");
        s.holds("Throws IllegalArgumentException if what is not 0 to 5", "lived Faapappap/bbcbbc", "ring 1 0 = 3", "ring 1 5 = 2",
            Steps.each("ring 1 # ! IAE", "-1", "6", "MIN", "MAX"), "ring 0 6 ! IAE");
    }

    private static void promise8(Sentences s) {
        s.in("Promise 8");
        s.holds("Returns a number of a corner. r: ring k: corner", FULL, "corner 0 0 0 = 0", "corner 0 9 1 = 15", "corner 3 0 0 = 1",
            "corner 3 9 1 = 11", "corner 3 10 1 ! IOOBE", "corner 4 0 0 ! IOOBE");
        s.holds("what: 0: its x;", "given Fpabaao", "corner 0 0 0 = 15", "corner 0 1 0 = 1", "corner 0 2 0 = 0");
        s.holds("1: its y;", "given Fapabpa", "corner 0 0 1 = 15", "corner 0 1 1 = 1", "corner 0 2 1 = 0");
        s.holds("2: 1 if it is pointed, -1 if it is hollow, 0 if it is straight;", "given Fcaeaeeaeaa", "corner 0 0 2 = 0",
            "corner 0 1 2 = 1", "given Feaeeaeaaca", "corner 0 4 2 = 0", "corner 0 0 2 = 1", "given Fbbaeaaea", "corner 0 0 2 = -1",
            "corner 0 1 2 = 1", "corner 0 3 2 = 1", "given Faeaaeabb", "corner 0 3 2 = -1", "corner 0 0 2 = 1",
            "given Faapappap/bbkbddbk", "corner 1 2 2 = -1", "corner 1 1 2 = 1", "corner 1 3 2 = 1", "corner 1 0 2 = 1");
        s.holds("3: the number of corners that it sees;", "given Faaeaae", "corner 0 0 3 = 0", "corner 0 2 3 = 0", "new",
            "corner 0 0 3 = 1", "corner 0 3 3 = 1", ROUND, "corner 0 0 3 = 7", "corner 0 9 3 = 7", "given Faapappap/hhjhhj",
            "corner 0 0 3 = 3", "corner 0 1 3 = 2", "corner 0 3 3 = 2", "corner 1 0 3 = 3", "corner 1 2 3 = 3");
    }

    private static void promise8Numbers(Sentences s) {
        s.holds("4: the doubled area of the triangle of it and the corners before and behind it;", TINY, "corner 0 0 4 = 1",
            "corner 0 2 4 = 1", "given " + WHOLE, "corner 0 0 4 = 225", "corner 0 3 4 = 225", "given Fcaeaeeaeaa", "corner 0 0 4 = 0",
            "corner 0 1 4 = 8", "corner 0 4 4 = 8", "given Faaiaieac", "corner 0 0 4 = 16", "corner 0 1 4 = 32", "mirror = 15",
            "corner 0 1 4 = 32");
        s.holds("5: the points of the paper on the side that begins at it, its beginning left out", TINY, "corner 0 0 5 = 1",
            "corner 0 1 5 = 1", "corner 0 2 5 = 1", "given " + WHOLE, "corner 0 0 5 = 15", "corner 0 3 5 = 15", "given Faappap",
            "corner 0 0 5 = 15", "given Faapoap", "corner 0 0 5 = 1", "corner 0 1 5 = 1", "given Faaeaeg", "corner 0 0 5 = 4",
            "corner 0 1 5 = 6", "corner 0 2 5 = 2", "given Faakdag", "corner 0 2 5 = 6", "corner 0 1 5 = 1");
        s.holds("Returns that number.", "new", "corner 0 2 0 = 4", "corner 0 2 1 = 4", "corner 0 2 2 = 1", "corner 0 2 3 = 1",
            "corner 0 2 4 = 16", "corner 0 2 5 = 4");
        s.holds("Throws IndexOutOfBoundsException if there is no such ring or corner", "lived Faapappap/bbcbbc", "corner 1 2 0 = 1",
            Steps.each("corner # 0 0 ! IOOBE", "-1", "2", "3", "4", "MIN", "MAX"),
            Steps.each("corner 1 # 0 ! IOOBE", "-1", "3", "10", "MIN", "MAX"), "corner 0 3 0 = 0", "corner 0 4 0 ! IOOBE",
            "corner 0 4 6 ! IOOBE", "corner 2 0 6 ! IOOBE");
        s.holds("Throws IllegalArgumentException if what is not 0 to 5", "lived Faapappap/bbcbbc", "corner 1 2 0 = 1",
            "corner 1 2 5 = 1", Steps.each("corner 1 2 # ! IAE", "-1", "6", "MIN", "MAX"));
    }

    private static void promise9(Sentences s) {
        s.in("Promise 9");
        s.holds("Tells where a point is. x: 0 to 15", "given Faapoap", "point 0 15 = 1", "point 15 14 = 1", "point 15 15 = 0",
            "point -1 15 ! IAE", "point 16 15 ! IAE");
        s.holds("y: 0 to 15", "given Faapoap", "point 0 0 = 1", "point 0 15 = 1", "point 0 -1 ! IAE", "point 0 16 ! IAE");
        s.holds("Returns 0 if it is outside the outline, 1 if it is on the border, 2 if it is inside the figure, 3 if it is inside a"
            + " hole.", TINY, "point 0 0 = 1", "point 1 0 = 1", "point 1 1 = 0", "given Fbbobbo", "point 0 0 = 0", "point 8 1 = 1",
            "point 2 2 = 2", "point 8 8 = 0", "point 7 8 = 1", "point 6 8 = 2", "given " + Figures.NOTCH, "point 4 5 = 0",
            "point 4 2 = 1", "point 4 1 = 2", "point 1 2 = 2", "point 1 8 = 1", "point 9 2 = 0", "given Faapappap/ccicci/kknkkn",
            "point 4 4 = 3", "point 2 2 = 1", "point 11 11 = 3", "point 12 12 = 2", "point 14 14 = 2", "point 15 15 = 1");
        s.holds("Throws IllegalArgumentException if x or y is out of range", "lived Faapappap/bbcbbc",
            Steps.each("point # 0 ! IAE", "-1", "16", "MIN", "MAX"), Steps.each("point 0 # ! IAE", "-1", "16", "MIN", "MAX"),
            "point 16 16 ! IAE", "point 15 15 = 1");
    }

    private static void promise10(Sentences s) {
        s.in("Promise 10");
        s.holds("Tells whether two corners see each other.", "new", "sees 0 0 0 2 = true", "sees 0 0 0 1 = false", "undo ! ISE");
        s.holds("r: ring k: corner of it s: ring m: corner of it", "given Faapappap/hhjhhj", "sees 0 0 1 0 = true", "sees 1 0 0 0 = true",
            "sees 0 1 1 2 = false", "sees 1 2 0 1 = false", "sees 0 3 1 2 = true", "sees 1 2 0 3 = true", "sees 0 0 0 3 = false");
        s.holds("Returns whether they do; false if both are the same corner.", "given Faapappap/hhjhhj", "sees 0 0 0 0 = false",
            "sees 0 3 0 3 = false", "sees 1 0 1 0 = false", "sees 1 2 1 2 = false", "sees 0 0 1 2 = true");
        s.holds("Throws IndexOutOfBoundsException if there is no such ring or corner", "lived Faapappap/bbcbbc", "sees 0 3 1 2 = true",
            Steps.each("sees # 0 0 0 ! IOOBE", "-1", "2", "4", "MIN", "MAX"),
            Steps.each("sees 0 # 0 0 ! IOOBE", "-1", "4", "10", "MIN", "MAX"),
            Steps.each("sees 0 0 # 0 ! IOOBE", "-1", "2", "4", "MIN", "MAX"),
            Steps.each("sees 0 0 0 # ! IOOBE", "-1", "4", "10", "MIN", "MAX"), "sees 1 3 0 0 ! IOOBE", "sees 0 0 1 3 ! IOOBE",
            "sees 2 9 2 9 ! IOOBE");
    }
}
