/** Figures, told as texts, that several tests use. */
final class Figures {
    /** The square of 8 by 8 with a notch from above, 4 wide and 6 deep: corners 4 and 5 are hollow. */
    static final String NOTCH = "Faaiaiigigcccciai";
    static final String SQUARE = "Faaeaeeae";
    static final String WHOLE = "Faapappap";
    static final String TWO_HOLES = "Faapappap/cccfff/kkmkkm";
    /** Ten corners, none hollow or straight. */
    static final String ROUND = "Feajancpgnnjpfpbmaibd";
    /** As much as there can be: the whole paper and three holes, 4 wide and 2 high, each ring with 10 corners; 84 signs. */
    static final String FULL = "Faadagajapappjpgpdpap/bbcbdbebfbfdedddcdbd/bfcfdfeffffhehdhchbh/bjcjdjejfjfleldlclbl";
    /** Four pointed corners and four hollow ones, each between two of the others. */
    static final String STAR = "Faahgpajhppijapgi";
    /** The hole is so near that no corner of the outline can be moved by 1. */
    static final String STUCK = "Facppda/cbdboocd";
    static final String TINY = "Faabaab";

    private Figures() {
    }
}
