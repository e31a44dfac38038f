/** What the document's beginning and its terms say of the paper, of points and areas, and of what sees what. */
final class BoundaryTerms {
    private BoundaryTerms() {
    }

    static void hold(Sentences s) {
        whatItIs(s);
        start(s);
        paper(s);
        rulesOneAndTwo(s);
        ruleThree(s);
        ruleFour(s);
        ruleFive(s);
        points(s);
        corners(s);
        sight(s);
    }

    private static void whatItIs(Sentences s) {
        s.in("What it is");
        s.holds("A figure on squared paper, with holes: corners that are moved, put in and taken out as long as no sides cross or touch,"
            + " areas by doubled sums, points on the border and inside, corners that see each other, ears that can be cut off, the hull,"
            + " moves that make the figure greatest.", "new", "move 0 1 2 6 ! ISE", "move 0 2 2 0 ! ISE", "insert 0 1 15 2 = 76",
            "about 2 = 76", "about 3 = 14", "about 4 = 32", "about 7 = 5", "about 8 = 76", "about 9 = 5", "addHole 1 1 = 1", "about 2 = 75",
            "remove 0 2 = 31", "bestMove = 10", "move 0 1 5 0 = 35", "figure = Faafaeeae/bbcbbc");
    }

    private static void start(Sentences s) {
        s.in("Terms");
        s.holds("Reasons for what is refused.", "given Faakakkak/ccdccd", "whyNot 0 2 16 10 = 1", "move 0 2 16 10 ! ISE",
            "whyNot 0 2 10 0 = 2", "move 0 2 10 0 ! ISE", "whyNot 1 0 12 12 = 3", "move 1 0 12 12 ! ISE", "whyNot 0 2 5 0 = 4",
            "move 0 2 5 0 ! ISE", "whyNot 0 2 1 1 = 5", "move 0 2 1 1 ! ISE", "whyNot 0 2 15 15 = 0", "move 0 2 15 15 = 299");
        s.holds("Changes can be undone.", "new", "move 0 2 15 15 = 120", "undo = 0", "figure = Faaeaeeae", "about 2 = 32");
    }

    private static void paper(Sentences s) {
        s.in("Terms, THE PAPER");
        s.holds("The paper has the points (x, y) with x and y from 0 to 15.", "new", "move 0 2 15 4 = 76", "move 0 2 15 15 = 120",
            "move 0 2 4 15 = 76", "move 0 2 16 4 ! ISE", "move 0 2 4 16 ! ISE", "move 0 0 -1 0 ! ISE", "move 0 0 0 -1 ! ISE",
            "move 0 0 0 0 = 76", "point 0 0 = 1", "point 15 0 = 0", "point 0 15 = 0", "point 15 15 = 0", "point 16 0 ! IAE",
            "point 0 16 ! IAE", "point -1 0 ! IAE", "point 0 -1 ! IAE");
        s.holds("The figure has at most 4 rings: the ring 0 is its outline, the rings 1 to 3 are its holes.", "given Faapappap",
            "addHole 1 1 = 1", "addHole 4 1 = 2", "addHole 7 1 = 3", "about 0 = 4", "addHole 10 1 ! ISE", "ring 0 1 = 450",
            "ring 1 1 = 1", "ring 3 1 = 1", "ring 4 1 ! IOOBE", "ring -1 1 ! IOOBE", "dropHole 0 ! ISE", "dropHole 3 = 448",
            "about 0 = 3", "addHole 10 1 = 3", "error Faapappap/bbcbbc/ebfbec/hbibhc = NONE",
            "error Faapappap/bbcbbc/ebfbec/hbibhc/kblbkc = 30");
        s.holds("A ring has 3 to 10 corners, numbered from 0, which are points of the paper.", "given Faapappap",
            "insert 0 0 1 0 = 450", "insert 0 1 2 0 = 450", "insert 0 2 3 0 = 450", "insert 0 3 4 0 = 450", "insert 0 4 5 0 = 450",
            "insert 0 5 6 0 = 450", "ring 0 0 = 10", "insert 0 6 7 0 ! ISE", "insert 0 9 0 7 ! ISE", "corner 0 9 1 = 15",
            "corner 0 10 1 ! IOOBE", "corner 0 0 1 = 0", "corner 0 -1 1 ! IOOBE", "again 6 remove 0 1 = 450", "remove 0 1 = 225",
            "ring 0 0 = 3", "remove 0 0 ! ISE", "remove 0 2 ! ISE", "given Faapappap/bbbkkb", "insert 1 0 1 2 = 369",
            "insert 1 1 1 3 = 369", "insert 1 2 1 4 = 369", "insert 1 3 1 5 = 369", "insert 1 4 1 6 = 369", "insert 1 5 1 7 = 369",
            "insert 1 6 1 8 = 369", "ring 1 0 = 10", "insert 1 7 1 9 ! ISE", "corner 1 9 0 = 10", "corner 1 10 0 ! IOOBE",
            "again 7 remove 1 1 = 369", "ring 1 0 = 3", "remove 1 0 ! ISE", "remove 1 2 ! ISE");
        s.holds("The sides of a ring join each corner to the next one, and the last one to the first one; the side k begins at the"
            + " corner k.", "given Faaeaeg", "corner 0 0 5 = 4", "corner 0 1 5 = 6", "corner 0 2 5 = 2", "ring 0 4 = 2",
            "ring 0 5 = 52", "ring 0 3 = 12", "point 2 3 = 1");
        s.holds("Two sides of a ring are neighbors at each corner that is the end of one and the beginning of the other.",
            // each two of a triangle's sides; the last side and the first one in one line
            "given Faaeaeg", "whyNot 0 0 0 0 = 0", "given Fcaeaeeaeaa", "whyNot 0 0 2 0 = 0", "whyNot 0 0 3 0 = 0",
            "whyNot 0 0 1 0 = 0", "whyNot 0 4 0 0 = 0",
            // sides that only meet there are no neighbors
            "given Faaeaiaiieeai", "whyNot 0 4 4 1 = 0", "whyNot 0 4 4 0 = 4");
        s.holds("In a new object the outline is the square with the corners (0, 0), (4, 0), (4, 4), (0, 4), and there are no holes.",
            "new", "figure = Faaeaeeae", "about 0 = 1", "ring 0 0 = 4", "ring 1 0 ! IOOBE");
        s.holds("Always all of this holds (the rules):", "given Faapappap", "addHole 13 13 = 1", "whyNot 1 0 13 13 = 0",
            "insert 1 1 14 14 = 448", "whyNot 1 2 14 14 = 0", "move 1 3 1 14 = 436", "whyNot 1 3 1 14 = 0", "addHole 1 1 = 2",
            "whyNot 2 2 1 2 = 0", "turn = 15", "whyNot 0 0 15 0 = 0", "whyNot 1 3 1 1 = 0", "whyNot 2 0 14 1 = 0", "mirror = 15",
            "whyNot 2 0 1 1 = 0", "remove 1 1 = 436", "whyNot 1 1 14 14 = 0", "dropHole 2 = 437", "shift 0 0 = 15",
            "whyNot 1 0 13 13 = 0", "undo = 8", "save 0 = 7", "undo = 7", "whyNot 2 2 2 1 = 0", "restore 0 = 7",
            "whyNot 1 0 13 13 = 0");
    }

    private static void rulesOneAndTwo(Sentences s) {
        s.holds("1. Each corner is a point of the paper.", "new", "whyNot 0 0 0 0 = 0", "whyNot 0 0 -1 0 = 1",
            "whyNot 0 0 0 -1 = 1", "whyNot 0 2 15 15 = 0", "whyNot 0 2 16 15 = 1", "whyNot 0 2 15 16 = 1", "whyNot 0 2 MIN MAX = 1",
            "whyNot 0 2 MAX MIN = 1", "whyNot 0 2 65540 4 = 1", "whyNot 0 2 4 65540 = 1", "whyNot 0 2 4 1073741828 = 1",
            "whyNot 0 2 -2147483644 4 = 1", "move 0 2 16 15 ! ISE", "insert 0 1 15 2 = 76", "insert 0 1 16 2 ! ISE",
            "insert 0 4 -1 2 ! ISE", "insert 0 4 0 -1 ! ISE", "shift 0 11 = 15", "shift 1 0 ! ISE", "shift 0 1 ! ISE",
            "shift -1 0 ! ISE", "shift 0 -12 ! ISE", "given Faapappap/bbcbbc", "whyNot 1 0 -1 0 = 1", "whyNot 1 2 1 16 = 1");
        s.holds("2. No side has its end where it begins.", "new", "whyNot 0 0 4 0 = 2", "whyNot 0 0 0 4 = 2", "whyNot 0 3 0 0 = 2",
            "whyNot 0 3 4 4 = 2", "move 0 3 0 0 ! ISE", "insert 0 3 0 4 ! ISE", "insert 0 3 0 0 ! ISE", "insert 0 0 0 0 ! ISE",
            "insert 0 0 4 0 ! ISE", "insert 0 3 0 1 = 32", "error Faaeaeeaeaa = 1", "error Faaaaeaee = 1", "error Faaeaeeee = 1",
            "given Faapappap/bbdbbd", "whyNot 1 0 1 3 = 2", "whyNot 1 2 1 1 = 2", "whyNot 1 1 1 1 = 2", "whyNot 1 1 2 1 = 0");
    }

    private static void ruleThree(Sentences s) {
        s.holds("3. No two sides of the figure (of one ring, or of two) cross: none have just one point in common that is no end of"
            + " either of them (an end: where it begins or ends).",
            // the first side, the last side, and a common point that is a point of the paper
            "new", "whyNot 0 1 2 6 = 3", "whyNot 0 3 6 2 = 3", "whyNot 0 1 4 8 = 3", "move 0 1 2 6 ! ISE", "insert 0 0 2 6 ! ISE",
            "error Faaeeeaae = 1",
            // as small as can be
            "error Faabbbaab = 1", "given Faabbbdab", "whyNot 0 2 1 0 = 3", "whyNot 0 2 1 2 = 0",
            // a side that is left behind a corner
            "given Faakakkffidag", "remove 0 2 ! ISE", "remove 0 4 = 130",
            // the outline and a hole
            "given Faapaai", "addHole 7 4 ! ISE", "addHole 7 3 = 1", "whyNot 0 1 13 0 = 3", "whyNot 1 1 8 4 = 3",
            "given Faakakkak/ccdccd", "whyNot 1 0 12 12 = 3",
            // two holes
            "given Faapappap/bbebbe/ggjggj", "whyNot 1 0 9 9 = 3", "whyNot 2 0 2 2 = 3", "whyNot 1 0 4 4 = 0");
    }

    private static void ruleFour(Sentences s) {
        s.holds("4. No two sides have another point in common, but neighbors the corner at which they are neighbors.",
            // corners in one line are fine as long as the sides do not run back
            "new", "whyNot 0 1 2 4 = 4", "insert 0 0 6 0 ! ISE", "insert 0 3 0 6 ! ISE", "insert 0 3 0 2 = 32", "insert 0 0 2 0 = 32",
            "whyNot 0 1 3 0 = 0", "whyNot 0 1 5 0 = 4", "whyNot 0 5 0 3 = 0", "whyNot 0 5 0 5 = 4", "whyNot 0 1 0 2 = 4",
            "error Faaccee = 1", "error Faaeaca = 1",
            // the first corner on a side
            "new", "whyNot 0 0 4 2 = 4", "whyNot 0 0 3 2 = 0", "given Feeaiaaiaii", "whyNot 0 0 4 0 = 4", "whyNot 0 0 4 1 = 0",
            // a corner of a hole on a side, on the last side and on a corner of the outline, and a side on a side
            "given Faakakkak/ccdccd", "whyNot 1 0 10 5 = 4", "whyNot 1 0 0 6 = 4", "whyNot 1 0 0 0 = 4", "whyNot 1 0 1 1 = 0",
            "addHole 0 5 ! ISE", "addHole 9 5 ! ISE", "addHole 5 9 ! ISE", "addHole 5 0 ! ISE", "addHole 9 8 ! ISE", "addHole 8 8 = 2",
            // a corner of a hole on a side of another, on its corner, and the same hole twice
            "given Faakakkak/bbfbbf", "addHole 3 3 ! ISE", "addHole 5 1 ! ISE", "addHole 0 5 ! ISE", "addHole 5 2 = 2",
            "addHole 5 2 ! ISE", "whyNot 2 0 3 3 = 4", "whyNot 2 0 4 3 = 0",
            // a side that is left behind a corner runs through another corner
            "given Faaiaiieeai", "remove 0 1 ! ISE", "remove 0 0 ! ISE", "remove 0 3 = 128",
            "error Faakakkak/bbfbbf/ddeddf = 17", "error Faakakkak/bbfbbf/deeedf = NONE");
    }

    private static void ruleFive(Sentences s) {
        s.holds("5. All corners of each hole are inside the outline, and none is inside another hole (inside a ring: surrounded by"
            + " its sides).", "new", "addHole 8 8 ! ISE", "addHole 5 1 ! ISE", "addHole 1 1 = 1",
            // a hole in a hole, and round a hole
            "given Faapappap/bbnbbn", "addHole 4 4 ! ISE", "addHole 13 13 = 2", "given Faapappap/bbdbdccnbn/eefeef",
            "whyNot 1 2 14 14 = 5", "move 1 2 14 14 ! ISE", "error Faapappap/ccdccd/bbkbbk = 17", "error Faapappap/bbkbbk/ccdccd = 17",
            // the outline leaves a hole outside
            "given Faakakkak/ccdccd", "whyNot 0 2 1 1 = 5", "move 0 2 1 1 ! ISE", "given Faakakkak/hhjhhj", "remove 0 2 ! ISE",
            "remove 0 0 = 96", "given Faakakkak/ehfhei", "insert 0 2 5 5 ! ISE", "insert 0 2 5 9 = 189",
            "error Fbbebeebe/aapaap = 10", "error Fccdccd/aapappap = 8",
            // inside the hull, but not surrounded
            "given " + Figures.NOTCH, "addHole 3 5 ! ISE",
            // at the height of corners of the outline, inside and at both sides
            "given Fhaphhpah", "addHole 5 7 = 1", "addHole 8 7 = 2", "given Fecgeegce", "addHole 8 4 ! ISE", "addHole 0 4 ! ISE",
            "addHole 4 8 ! ISE", "addHole 4 0 ! ISE", "addHole 4 4 = 1");
    }

    private static void points(Sentences s) {
        s.in("Terms, POINTS AND AREAS");
        s.holds("A point of the paper is on the border if it is on a side.", "given Faaeaeg", "point 0 0 = 1", "point 4 6 = 1",
            "point 4 3 = 1", "point 2 3 = 1", "point 1 1 = 2", "point 1 2 = 0", "point 4 7 = 0", "point 5 3 = 0", "point 5 0 = 0",
            "given Faakakkak/cchcch", "point 4 5 = 1", "point 2 2 = 1", "point 2 7 = 1", "point 7 2 = 1", "point 2 8 = 2",
            "point 8 2 = 2", "about 3 = 55");
        s.holds("It is inside the figure if it is inside the outline, on no side, and inside no hole.", "given Faakakkak/cchcch",
            "point 5 5 = 2", "point 1 2 = 2", "point 1 7 = 2", "point 9 9 = 2", "point 3 3 = 3", "point 2 5 = 1", "point 10 5 = 1",
            "point 11 5 = 0", "about 4 = 60");
        s.holds("The doubled sum of a ring is the sum over its corners, (x, y) and the next one (u, v), of x * v - u * y; its doubled"
            + " area is that without sign; the ring goes left if the sum is above 0.",
            // in the first one, only the last corner and the first one make more than 0
            "given Ffaaaaf", "ring 0 1 = 25", "ring 0 2 = 0", "given Faafaaf", "ring 0 1 = 25", "ring 0 2 = 1", "given Faabaab",
            "ring 0 1 = 1", "ring 0 2 = 1", "given Faaabba", "ring 0 1 = 1", "ring 0 2 = 0", "given Foppppo", "ring 0 1 = 1",
            "ring 0 2 = 0", "given Faapappap/bbbkkb", "ring 0 1 = 450", "ring 0 2 = 1", "ring 1 1 = 81", "ring 1 2 = 0");
        s.holds("The doubled area of the figure is that of the outline less those of all holes.", "given " + Figures.TWO_HOLES,
            "about 2 = 437", "mirror = 15", "about 2 = 437", "dropHole 1 = 446", "dropHole 1 = 450", "about 2 = 450",
            "given Faapappap/bbcbbc/ebfbec/hbibhc", "about 2 = 447", "given " + Figures.FULL, "about 2 = 402");
    }

    private static void corners(Sentences s) {
        s.holds("A corner of a ring with the corner (x, y) before it, (u, v) itself and (s, t) behind it, has the bend"
            + " (u - x) * (t - v) - (v - y) * (s - u).", "given Faaiaieac", "corner 0 0 4 = 16", "corner 0 1 4 = 32",
            "corner 0 2 4 = 32", "corner 0 3 4 = 16");
        s.holds("It is straight if this is 0; otherwise it is pointed if the bend is above 0 just if the ring goes left, and hollow"
            + " if not.",
            // the first corner is straight, then the last one
            "given Fcaeaeeaeaa", "corner 0 0 2 = 0", "corner 0 1 2 = 1", "corner 0 4 2 = 1", "given Feaeeaeaaca", "corner 0 4 2 = 0",
            "corner 0 0 2 = 1", "corner 0 3 2 = 1",
            // bends of -1 and 1, in a ring that goes left and, mirrored, right
            "given Faahbpcap", "ring 0 2 = 1", "corner 0 1 4 = 1", "corner 0 1 2 = -1", "mirror = 15", "ring 0 2 = 0",
            "corner 0 1 2 = -1", "given Faaibpcap", "corner 0 1 4 = 1", "corner 0 1 2 = 1", "mirror = 15", "corner 0 1 2 = 1",
            // a hole has its own way round
            "given Faapappap/bbbkddkb", "ring 1 2 = 0", "corner 1 0 2 = 1", "corner 1 1 2 = 1", "corner 1 2 2 = -1",
            "corner 1 3 2 = 1");
    }

    private static void sight(Sentences s) {
        s.holds("Two different corners of the figure see each other if the line that joins them has no point in common with any side"
            + " but its ends, and its middle is inside the outline and inside no hole.",
            // one corner, neighbors, also the last one and the first one
            "new", "sees 0 0 0 0 = false", "sees 0 0 0 1 = false", "sees 0 3 0 0 = false", "sees 0 0 0 3 = false", "sees 0 0 0 2 = true",
            "sees 0 3 0 1 = true",
            // the line runs through a straight corner, through a hollow one, across a side
            "given Faacaeaeeae", "sees 0 0 0 2 = false", "sees 0 1 0 3 = true", "given " + Figures.NOTCH, "sees 0 0 0 2 = false",
            "sees 0 0 0 3 = false", "sees 0 7 0 4 = false", "sees 0 0 0 4 = true", "sees 0 5 0 7 = true", "sees 0 4 0 2 = true",
            // nothing is touched, but the middle is outside
            "sees 0 3 0 6 = false", "sees 0 5 0 3 = false", "sees 0 6 0 4 = false",
            // a corner of a hole, a side of a hole; hole and outline, hole and hole
            "given Faapappap/hhihhi", "sees 0 0 0 2 = false", "sees 0 1 0 3 = false", "sees 0 0 1 0 = true", "sees 0 0 1 1 = true",
            "sees 0 2 1 0 = false", "sees 0 2 1 1 = true", "given Faapappap/hijihj", "sees 0 0 0 2 = false",
            "given Faakakkak/cccfff/hhihhi", "sees 1 2 2 0 = true", "sees 2 0 1 2 = true", "sees 0 0 1 2 = false",
            "sees 1 0 1 2 = false",
            // two corners of a hole through it, and past its hollow corner
            "given Faakakkak/cchchhch", "sees 1 0 1 2 = false", "sees 1 1 1 3 = false", "given Faakakkak/ccgcedci",
            "sees 1 1 1 3 = true", "sees 1 0 1 2 = false",
            // the middle lies between the points of the paper
            "given Faahahhfhfcccchah", "sees 0 3 0 6 = false", "sees 0 4 0 6 = false", "sees 0 5 0 7 = true",
            "given Faapappap/ghhhgi", "sees 0 1 0 3 = true", "sees 0 0 0 2 = false");
        s.holds("A pointed corner of the outline, which has more than 3 corners, is an ear if the corner before it and that behind it"
            + " see each other (also if a hole lies in their triangle).",
            // 3 corners, and 4 of them
            "given Faaeaae", "about 7 = 0", "cut 0 = NONE", "cut 1 = NONE", "cut 2 = NONE", "new", "about 7 = 4", "cut 0 = 16",
            "cut 3 = 16",
            // straight and hollow corners
            "given Fcaeaeeaeaa", "cut 0 = NONE", "cut 1 = 8", "cut 4 = 8", "cut 2 = 16", "given Faaeabbae", "about 7 = 2",
            "cut 0 = NONE", "cut 1 = 4", "cut 2 = NONE", "cut 3 = 4",
            // a hole in the triangle, and one in the way
            "given Faapappap/hbjbhd", "about 7 = 4", "cut 1 = 225", "cut 0 = 225", "given Faapappap/hhjhhj", "about 7 = 0",
            "cut 1 = NONE", "cut 0 = NONE");
    }
}
