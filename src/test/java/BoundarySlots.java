import java.util.ArrayList;
import java.util.List;

/** The promises 27 and 28, and how long an object is used. */
final class BoundarySlots {
    private BoundarySlots() {
    }

    static void hold(Sentences s) {
        save(s);
        restore(s);
        longUse(s);
    }

    private static void save(Sentences s) {
        s.in("Promise 27");
        s.holds("Stores the present state in a save slot.", "new", "save 0 = 4", "turn = 15", "save 1 = 4", "mirror = 4", "save 0 = 4", "mirror = 15",
            "restore 0 = 4", "figure = Faaaeeeea", "restore 1 = 4", "figure = Fpapelela", "save 1 = 4", "save 0 = 4", "restore 0 = 4",
            "figure = Fpapelela", "given " + Figures.FULL, "save 1 = 40", "dropHole 2 = 418", "remove 0 1 = 418", "restore 1 = 40",
            "figure = " + Figures.FULL);
        s.holds("slot: 0 or 1", "new", "save 0 = 4", "save 1 = 4", "save -1 ! IOOBE", "save 2 ! IOOBE");
        s.holds("Returns the number of all corners.", "given " + Figures.FULL, "save 0 = 40", "dropHole 1 = 418", "save 0 = 30", "remove 0 1 = 418",
            "save 1 = 29", "given Faabaab", "save 0 = 3");
        s.holds("Throws IndexOutOfBoundsException if there is no such save slot", "lived Faapappap/bbcbbc",
            Steps.each("save # ! IOOBE", "-1", "2", "3", "MIN", "MAX"), "restore 0 ! ISE", "restore 1 = 7");
    }

    private static void restore(Sentences s) {
        s.in("Promise 28");
        s.holds("Replaces the state by the one in a save slot, and forgets all remembered states.", "new", "save 1 = 4", "again 11 shift 0 1 = 4",
            "figure = Falelepap", "undo = 10", "restore 1 = 4", "figure = Faaeaeeae", "undo ! ISE", "turn = 15",
            "undo = 0", "undo ! ISE", "lived Faapappap/bbcbbc", "restore 1 = 7", "figure = Fpaaaappp/obnboc", "undo ! ISE", "clearText = 16");
        s.holds("The save slot keeps it.", "new", "save 0 = 4", "turn = 15", "restore 0 = 4", "move 0 0 1 1 = 24", "restore 0 = 4",
            "figure = Faaeaeeae", "mirror = 15", "restore 0 = 4", "figure = Faaeaeeae", "restore 1 ! ISE");
        s.holds("slot: 0 or 1", "new", "save 0 = 4", "turn = 15", "save 1 = 4", "restore 0 = 4", "figure = Faaeaeeae", "restore 1 = 4",
            "figure = Fpapelela", "restore -1 ! IOOBE", "restore 2 ! IOOBE");
        s.holds("Returns the number of all corners then.", "given " + Figures.FULL, "save 0 = 40", "dropHole 1 = 418", "save 1 = 30",
            "remove 0 1 = 418", "restore 0 = 40", "restore 1 = 30", "given Faabaab", "save 1 = 3", "restore 1 = 3");
        s.holds("Throws IndexOutOfBoundsException if there is no such save slot", "lived Faapappap/bbcbbc", "save 0 = 7",
            Steps.each("restore # ! IOOBE", "-1", "2", "3", "MIN", "MAX"), "new", "restore -1 ! IOOBE", "restore 2 ! IOOBE");
        s.holds("Throws IllegalStateException if nothing has been saved in it since the last load", "new", "restore 0 ! ISE", "restore 1 ! ISE",
            "save 0 = 4", "restore 1 ! ISE", "restore 0 = 4", "text Faaeaae", "load = 1", "restore 0 ! ISE", "save 1 = 3", "restore 0 ! ISE",
            "restore 1 = 3", "clearText = 7", "load ! ISE", "restore 1 = 3", "turn = 15", "undo = 0", "restore 1 = 3");
    }

    private static void longUse(Sentences s) {
        s.in("What it is");
        List<String> calls = new ArrayList<>();
        for (int i = 0; i < 249; i++) {
            calls.add("shift 1 0 = 5");
            calls.add("shift -1 0 = 4");
        }
        // the last of these is the 512th call
        for (int left = 13; left >= 0; left--) {
            calls.add("undo = " + left);
        }
        s.holds("An object is used for at most 512 calls after it has been made; what later calls answer is free.", "new",
            calls.toArray(new String[0]));
    }
}
