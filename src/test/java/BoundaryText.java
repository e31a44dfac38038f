/** The text: what the terms say of it, and promises 2 to 5. */
final class BoundaryText {
    private static final String FULL = Figures.FULL;
    private static final String ROUND = Figures.ROUND;

    private BoundaryText() {
    }

    static void hold(Sentences s) {
        form(s);
        badRings(s);
        illSigns(s);
        promises2And3(s);
        promises4And5(s);
    }

    private static void form(Sentences s) {
        s.in("Terms, TEXT");
        s.holds("The object has a text buffer of at most 90 characters.", "new", "clearText = 0", "again 89 append 97 = 89",
            "append 97 = 90", "append 97 ! ISE", "clearText = 90", "append 97 = 1");
        s.holds("A figure is the letter F, and one to four rings with a / between two, the outline first.", "error F = 1",
            "error Faaeaae = NONE", "error Faapappap/bbcbbc = NONE", "error Faapappap/bbcbbc/ebfbec = NONE",
            "error Faapappap/bbcbbc/ebfbec/hbibhc = NONE", "error Faapappap/bbcbbc/ebfbec/hbibhc/kblbkc = 30", "error aaeaae = 0",
            "error faaeaae = 0", "error FFaaeaae = 1", "error F/aaeaae = 1", "error Faaeaae/ = 8", "error Faapappap//bbcbbc = 10",
            "error Faapappap/bbcbbc/ = 17", "error Fbbcbbc/aapappap = 8", "given Fpppaaaap", "figure = Fpppaaaap");
        s.holds("A ring is 3 to 10 corners; a corner is a letter from a (0) to p (15) for x, and one for y.", "error Faaea = 5",
            "error Faaea/ = 5", "error Faaeaae = NONE", "error " + ROUND + " = NONE", "error " + ROUND + "a = 21",
            "error " + ROUND + "aa = 21", "error Faapappap/bbcb = 14", "error " + FULL + " = NONE", "error Faaeaaee = 8",
            "error Faapaap = NONE", "error Faaqaap = 3", "error Faapaaq = 6", "error F`apaap = 1", "error Fa`paap = 2",
            "error FAapaap = 1", "given Faapaop", "corner 0 0 0 = 0", "corner 0 1 0 = 15", "corner 0 1 1 = 0", "corner 0 2 0 = 14",
            "corner 0 2 1 = 15");
        s.holds("There are no blanks.", "new", "append 32 = 1", "errorPosition = 0", "text F", "append 32 = 2", "errorPosition = 1",
            "text Faaeaae", "append 32 = 8", "errorPosition = 7", "load ! ISE", "text Faaea", "append 32 = 6", "append 97 = 7",
            "append 101 = 8", "errorPosition = 5", "text Faaeaae", "append 10 = 8", "errorPosition = 7");
    }

    private static void badRings(Sentences s) {
        s.holds("A ring must keep the rules with those told ahead of it; if it does not, the error position is the index of its first"
            + " character, found when the ring is complete: at a / that may stand there, or at the end of the text.",
            // at the end, at a /, and not before
            "error Faaeeeaae = 1", "error Faaeeeaae/ = 1", "error Faaeeeaae/bbq = 1", "error Faaeeea = NONE", "error Faaeeeaa = 8",
            "error Faaeeeaaq = 8", "error Faaeeeaaeq = 9", "error Faaeeeaaea = 10",
            // each of the rings, by each of the rules that a text can break
            "error Faaaaeaee = 1", "error Faacaea = 1", "error Faapappap/aacaac = 10", "error Faaeaeeae/ffhffh = 10",
            "error Faaeaeeae/bbdbbdbb = 10", "error Faaeaeeae/ffhffh/ = 10", "error Faapappap/bbcbbc/bbcbbc = 17",
            "error Faapappap/bbcbbc/ebfbec/cbdbdd = 24", "error Faapappap/bbcbbc/ebfbec/bcebcc = 24",
            "error Faapappap/bbcbbc/ebfbec/ababab = 24",
            // the first bad ring of two
            "error Faaeeeaae/ffhffh = 1", "error Faaeaeeae/ffhffh/ffhffh = 10",
            // a / that may not stand there, behind the fourth ring
            "error Faapappap/ccdccd/eefeef/ccdccd = 24", "error Faapappap/ccdccd/eefeef/ccdccd/ = 30",
            "error Faapappap/ccdccd/eefeef/ccdccda = 31", "error Faapappap/ccdccd/eefeef/ccdccdq = 30",
            // the tenth corner is the last one
            "error Faabacadaeafagahaiaja = 1", "error Faabacadaeafagahaiaja/ = 1", "error Faabacadaeafagahaiajaa = 21",
            "error Faabacadaeafagahaia = 1", "error Faabacadaeafagahaiaj = 20");
    }

    private static void illSigns(Sentences s) {
        s.holds("Else the text is read from left to right, and the error position is the index of the first character that these rules"
            + " do not allow at its place; if the text ends too soon, it is the length of the text.", "new", "errorPosition = 0",
            "error F = 1", "error Fa = 2", "error Faa = 3", "error Faaea = 5", "error Faaeaa = 6", "error Faaeaae = NONE",
            "error Faaeaae/ = 8", "error Faaeaae/b = 9", "error / = 0", "error Fa/ = 2", "error Faaeaa/ = 6", "error Faaeaae// = 8",
            "error Faaeaae/F = 8", "error FqqqF = 1", "error FaaeaaeFF = 7", "error " + ROUND + "/ = 22", "error " + ROUND + "// = 22",
            "error " + FULL + " = NONE", "error " + FULL + "/ = 84", "error " + FULL + "a = 84", "error " + FULL + "aaaaaa = 84",
            "text F", "again 89 append 97 = 90", "errorPosition = 21", "text Faaeaae", "append 0 = 8", "errorPosition = 7",
            "text Faaeaae", "append 255 = 8", "errorPosition = 7", "text Faaeaae", "append 225 = 8", "errorPosition = 7");
    }

    private static void promises2And3(Sentences s) {
        s.in("Promise 2");
        s.holds("Appends a character to the text buffer.", "new", "append 70 = 1", "append 97 = 2", "append 98 = 3", "append 101 = 4",
            "append 97 = 5", "append 97 = 6", "append 101 = 7", "load = 1", "figure = Fabeaae");
        s.holds("c: character code, 0 to 255", "new", "append 0 = 1", "append 255 = 2", "append -1 ! IAE", "append 256 ! IAE",
            "clearText = 2");
        s.holds("Returns the new length of the text.", "new", "append 97 = 1", "append 97 = 2", "again 88 append 97 = 90",
            "clearText = 90", "append 97 = 1");
        s.holds("Throws IllegalArgumentException if c is out of range", "lived Faaeaae", "append -1 ! IAE", "append 256 ! IAE",
            "append 353 ! IAE", "append MIN ! IAE", "append MAX ! IAE", "clearText = 7", "append -1 ! IAE", "again 90 append 0 = 90",
            "append 256 ! IAE", "append -1 ! IAE");
        s.holds("Throws IllegalStateException if the text already has 90 characters", "lived Faaeaae", "again 83 append 97 = 90",
            "append 0 ! ISE", "append 255 ! ISE", "append 97 ! ISE", "errorPosition = 21", "clearText = 90", "append 97 = 1");
        s.in("Promise 3");
        s.holds("Empties the text buffer.", "new", "text Faaeaae", "clearText = 7", "errorPosition = 0", "load ! ISE", "append 70 = 1",
            "errorPosition = 1", "lived Faapaap", "clearText = 7", "figure = Faapaap", "undo = 2", "restore 1 = 3");
        s.holds("Returns the previous length of the text.", "new", "clearText = 0", "append 97 = 1", "clearText = 1", "clearText = 0",
            "again 90 append 97 = 90", "clearText = 90", "clearText = 0");
    }

    private static void promises4And5(Sentences s) {
        s.in("Promise 4");
        s.holds("Checks the text.", "lived Faapaap", "errorPosition = NONE", "text Faabaab", "errorPosition = NONE", "figure = Faapaap",
            "text Faab", "errorPosition = 4", "figure = Faapaap", "undo = 2");
        s.holds("Returns the error position of the text; NONE if it is a figure.", "new", "errorPosition = 0", "error F = 1",
            "error " + Figures.TINY + " = NONE", "error " + FULL + " = NONE", "error " + FULL + "/ = 84");
        s.in("Promise 5");
        s.holds("Replaces everything by the figure of the text.", "lived Faapappap/bbcbbc", "text Faaeaae", "load = 1",
            "figure = Faaeaae", "about 1 = 3", "text " + FULL, "load = 4", "figure = " + FULL, "text " + Figures.TINY, "load = 1",
            "figure = " + Figures.TINY);
        s.holds("Forgets all remembered states and empties both save slots.", "new", "text Faaeaae", "save 0 = 4", "save 1 = 4",
            "again 15 turn = 4", "load = 1", "undo ! ISE", "restore 0 ! ISE", "restore 1 ! ISE", "turn = 15", "undo = 0", "undo ! ISE",
            "save 1 = 3", "restore 0 ! ISE", "restore 1 = 3", "load = 1", "restore 1 ! ISE");
        s.holds("Keeps the text.", "given Faaeaae", "errorPosition = NONE", "turn = 15", "load = 1", "figure = Faaeaae",
            "append 97 = 8", "clearText = 8");
        s.holds("Returns the number of rings.", "given Faaeaae = 1", "given Faapappap/bbcbbc = 2", "given " + Figures.TWO_HOLES + " = 3",
            "given " + FULL + " = 4");
        s.holds("Throws IllegalStateException if the text is not a figure", "new", "load ! ISE", "save 1 = 4", "turn = 15", "load ! ISE",
            "text F", "load ! ISE", "text Faaea", "load ! ISE", "text Faaeeeaae", "load ! ISE", "text " + FULL + "/", "load ! ISE",
            "undo = 0", "restore 1 = 4", "lived Faapaap", "clearText = 7", "load ! ISE", "figure = Faapaap", "undo = 2");
    }
}
