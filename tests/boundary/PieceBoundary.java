/** The boundaries of part 4 and of the promises 30 to 35: pieces that are typed. */
final class PieceBoundary extends Checks {

    private static final String KINDS = "At most 6 kinds have 3 to 6 cells each, which hang together by neighbours, typed "
        + "with x and y from 0 to 5;";
    private static final String MOTIONS = "a kind can be turned by quarters, or not, mirrored, by which left and right "
        + "change places, or not, or both, and there are so many pieces of it.";
    private static final String EXACT = "An exact cover has each cell of the board in just one piece, of each kind no more "
        + "than there are;";
    private static final String ROUND = "on a board that is rolled pieces can go round, and those of a kind with the same "
        + "cells are the same.";
    private static final String AHEAD = "of two ahead is that which has, at the first cell, by rows, that is in unlike "
        + "pieces, the one of the lower kind, or else that whose cells, by rows, come first at the first of them that is "
        + "another one.";
    private static final String ALIKE = "Two are alike if a turn or mirroring of the rectangle of w and h that takes it and "
        + "the board to themselves takes one to the other, each piece to one of its kind.";
    private static final String TOO_MANY_CELLS = "Throws `UnsupportedOperationException` if the board has more than 24 cells";
    private static final String FEW = "Throws `IllegalStateException` if fewer than 3 cells are typed, or there are 6 kinds";
    private static final String APART = "Throws `UnsupportedOperationException` if the cells do not hang together, or a "
        + "shape is of another kind";

    private static final String[] CORNER = {"#######", "#......", "#......", "#......", "#......", "#......", "#......"};

    /** The kinds that kindAt() tells of all cells by rows. */
    private static String kinds(Tilecount t, int index, int w, int h) {
        StringBuilder kinds = new StringBuilder();
        for (int y = 0; y < h; y++) {
            for (int x = 0; x < w; x++) {
                kinds.append(t.has(x, y) ? String.valueOf(t.kindAt(index, x, y)) : ".");
            }
        }
        return kinds.toString();
    }

    private static Tilecount typed(String... rows) {
        Tilecount t = new Tilecount();
        type(t, rows);
        return t;
    }

    private static Tilecount with(Tilecount t, boolean isTurned, boolean isMirrored, int many, String... rows) {
        kind(t, isTurned, isMirrored, many, rows);
        return t;
    }

    private static Tilecount sixOn(Tilecount t) {
        sixKinds(t);
        return t;
    }

    // ---- part 4 ----

    @Says(at = 0, is = KINDS)
    static void sixKindsAreTakenAndNoSeventh() {
        refused(STATE, () -> {
            Tilecount t = sixOn(new Tilecount());
            type(t, "#####");
            return t;
        }, t -> t.kind(true, true, 1));
        Tilecount t = sixOn(new Tilecount());
        type(t, "#####");
        due(t.clear(), 6);
        due(kind(t, true, true, 1, "#####"), 2);
    }

    @Says(at = 0, is = KINDS)
    static void aKindHasThreeToSixCells() {
        refused(STATE, () -> typed("##"), t -> t.kind(true, true, 1));
        due(typed("###").kind(true, true, 1), 2);
        due(typed("######").kind(true, true, 1), 2);
        refused(STATE, () -> typed("######"), t -> t.pieceCell(0, 1));
    }

    @Says(at = 0, is = KINDS)
    static void cellsThatTouchAtACornerDoNotHangTogether() {
        refused(CANT, () -> typed("##.", "..#"), t -> t.kind(true, true, 1));
        refused(CANT, () -> typed("#.#", ".#."), t -> t.kind(true, true, 1));
        refused(CANT, () -> typed("##.##"), t -> t.kind(true, true, 1));
        refused(CANT, () -> typed(".....#", "#....#"), t -> t.kind(true, true, 1));
        refused(CANT, () -> typed(".....#", "##...."), t -> t.kind(true, true, 1));
        due(typed(".#.", "###", ".#.").kind(true, true, 1), 1);
        due(typed("#", "#", "#", "#", "#", "#").kind(false, false, 1), 1);
    }

    @Says(at = 0, is = KINDS)
    static void cellsAreTypedFromNoughtToFive() {
        range(BAD, () -> busy(of(4, 4)), 0, 5, (t, n) -> t.pieceCell(n, 0));
        range(BAD, () -> busy(of(4, 4)), 0, 5, (t, n) -> t.pieceCell(0, n));
    }

    @Says(at = 0, is = MOTIONS)
    static void aKindHasTheShapesOfItsMotions() {
        String[] ell = {"####", "#..."};
        due(kind(new Tilecount(), false, false, 1, ell), 1);
        due(kind(new Tilecount(), true, false, 1, ell), 4);
        due(kind(new Tilecount(), false, true, 1, ell), 2);
        due(kind(new Tilecount(), true, true, 1, ell), 8);
    }

    @Says(at = 0, is = MOTIONS)
    static void mirroringChangesLeftAndRightAlone() {
        Tilecount t = with(new Tilecount(), false, true, 1, "###", "#..");
        type(t, "###", "..#");
        due(outcome(t, u -> u.kind(false, false, 1)), "UnsupportedOperationException");
        t = with(new Tilecount(), false, true, 1, "###", "#..");
        due(kind(t, false, false, 1, "#..", "###"), 1);
        due(kind(t, false, false, 1, "..#", "###"), 1);
    }

    @Says(at = 0, is = MOTIONS)
    static void turningDoesNotMirror() {
        Tilecount t = with(new Tilecount(), true, false, 1, "###", "#..");
        due(kind(t, true, false, 1, "###", "..#"), 4);
        Tilecount s = with(new Tilecount(), true, false, 1, "##.", ".##");
        due(kind(s, true, false, 1, ".##", "##."), 2);
    }

    @Says(at = 0, is = "Its shapes are the unlike ones that come so, moved about;")
    static void shapesThatAreAlikeCountOnce() {
        due(kind(new Tilecount(), true, true, 1, "##", "##"), 1);
        due(kind(new Tilecount(), true, true, 1, ".#.", "###", ".#."), 1);
        due(kind(new Tilecount(), true, true, 1, "###"), 2);
        due(kind(new Tilecount(), false, true, 1, "###"), 1);
        due(kind(new Tilecount(), true, true, 1, "##", "#."), 4);
        due(kind(new Tilecount(), true, true, 1, "##.", ".##"), 4);
        due(kind(new Tilecount(), true, true, 1, "###", ".#."), 4);
    }

    @Says(at = 0, is = "Its shapes are the unlike ones that come so, moved about;")
    static void aShapeIsTheSameWhereverItWasTyped() {
        for (int[] at : new int[][] {{0, 0}, {3, 0}, {0, 4}, {3, 4}}) {
            Tilecount t = with(of(3, 2), false, false, 1, "##", "#.");
            for (int i = 0; i < 3; i++) {
                t.pieceCell(at[0] + i % 2, at[1] + i / 2);
            }
            due(outcome(t, u -> u.kind(false, false, 1)), "UnsupportedOperationException");
            t.clear();
            t.pieceCell(at[0], at[1] + 1);
            t.pieceCell(at[0] + 1, at[1] + 1);
            t.pieceCell(at[0] + 2, at[1] + 1);
            t.kind(false, false, 2);
            due(t.exact(), 1);
        }
        Tilecount low = with(new Tilecount(), false, false, 1, "......", "......", "......", "......", "......", "...###");
        type(low, "###");
        due(outcome(low, u -> u.kind(false, false, 1)), "UnsupportedOperationException");
    }

    @Says(at = 0, is = "no shape is of two kinds.")
    static void aShapeOfAnotherKindIsRefused() {
        refused(CANT, () -> {
            Tilecount t = with(new Tilecount(), true, true, 2, "##", "#.");
            type(t, "##", ".#");
            return t;
        }, t -> t.kind(false, false, 1), t -> t.kind(true, true, 8));
        refused(CANT, () -> {
            Tilecount t = with(new Tilecount(), false, false, 2, "##", "#.");
            type(t, "##", ".#");
            return t;
        }, t -> t.kind(true, false, 1), t -> t.kind(false, true, 1));
        Tilecount t = with(new Tilecount(), false, false, 2, "##", "#.");
        due(kind(t, false, false, 1, "##", ".#"), 1);
    }

    @Says(at = 0, is = EXACT)
    static void noMorePiecesAreTakenThanThereAre() {
        due(with(of(6, 1), false, false, 1, "###").exact(), 0);
        due(with(of(6, 1), false, false, 2, "###").exact(), 1);
        due(with(of(6, 1), false, false, 8, "###").exact(), 1);
        due(with(of(8, 3), true, false, 7, "###").exact(), 0);
        due(with(of(8, 3), true, false, 8, "###").exact() > 0, true);
        Tilecount two = with(with(of(7, 1), false, false, 1, "###"), false, false, 1, "####");
        due(two.exact(), 2);
    }

    @Says(at = 0, is = EXACT)
    static void noMorePiecesAreTakenOfAnyOfSixKinds() {
        String[][] wide = {{"####"}, {"####", "#..."}, {"####", ".#.."}, {"####", "..#."}, {"####", "...#"}};
        for (int place = 0; place < 6; place++) {
            for (int many = 1; many <= 8; many++) {
                Tilecount t = new Tilecount();
                for (int i = 0; i < 5; i++) {
                    if (i == place) {
                        kind(t, false, false, many, "###");
                    }
                    kind(t, false, false, 8, wide[i]);
                }
                if (place == 5) {
                    kind(t, false, false, many, "###");
                }
                for (int h = 1; h <= 8; h++) {
                    t.board(3, h);
                    due(t.exact(), h <= many ? 1 : 0);
                }
            }
        }
    }

    @Says(at = 0, is = EXACT)
    static void anEmptyBoardHasOneExactCover() {
        due(new Tilecount().exact(), 1);
        due(bare(8, 8).exact(), 1);
        due(sixOn(new Tilecount()).exact(), 1);
        due(sixOn(bare(8, 8)).unlike(), 1);
    }

    @Says(at = 0, is = EXACT)
    static void aCellLeftOverLeavesNoExactCover() {
        due(of(1, 1).exact(), 0);
        due(with(of(4, 1), true, true, 8, "###").exact(), 0);
        due(with(of(2, 1), true, true, 8, "###").exact(), 0);
        due(sixOn(of(2, 1)).exact(), 0);
        due(sixOn(of(5, 1)).exact(), 0);
    }

    @Says(at = 0, is = ROUND)
    static void piecesGoRoundARolledBoard() {
        due(with(rolled(6, 1), false, false, 2, "###").exact(), 3);
        due(with(of(6, 1), false, false, 2, "###").exact(), 1);
        due(with(rolledPicture("##.#"), false, false, 1, "###").exact(), 1);
        due(with(picture("##.#"), false, false, 1, "###").exact(), 0);
        due(with(rolledPicture("#..#", "#..."), false, false, 1, "##", ".#").exact(), 1);
        due(with(rolledPicture("#...", "#...", "....", "#..."), false, false, 1, "#", "#", "#").exact(), 0);
    }

    @Says(at = 0, is = ROUND)
    static void piecesWithTheSameCellsAreTheSame() {
        due(with(rolled(4, 1), false, false, 1, "####").exact(), 1);
        due(with(rolled(6, 1), false, false, 1, "######").exact(), 1);
        Tilecount t = with(with(rolled(4, 2), false, true, 1, "####", "#..."), false, false, 1, "###");
        due(t.exact(), 4);
        Tilecount both = with(with(rolled(4, 2), true, true, 1, "####", "#..."), false, false, 1, "###");
        due(both.exact(), 8);
    }

    @Says(at = 0, is = ROUND)
    static void aPieceThatMeetsItselfRoundIsNone() {
        due(with(rolled(4, 1), true, true, 8, "#####").exact(), 0);
        due(with(rolled(4, 1), true, true, 8, "######").exact(), 0);
        due(with(rolled(4, 2), true, true, 8, "#####").exact(), 0);
        due(with(rolledPicture("####", "##.."), false, false, 1, "####", "...##").exact(), 1);
    }

    @Says(at = 0, is = "Exact covers are numbered from 0:")
    static void exactCoversGoFromNoughtToOneLess() {
        Tilecount t = with(with(of(7, 1), false, false, 1, "####"), false, false, 1, "###");
        due(kinds(t, 0, 7, 1), "0000111");
        due(kinds(t, 1, 7, 1), "1110000");
        due(outcome(t, u -> u.kindAt(2, 0, 0)), "NoSuchElementException");
        due(outcome(t, u -> u.kindAt(-1, 0, 0)), "NoSuchElementException");
    }

    @Says(at = 0, is = AHEAD)
    static void theLowerKindIsAheadThoughItsCellsComeLater() {
        Tilecount t = of(3, 3);
        with(with(t, false, false, 3, "#", "#", "#"), false, false, 3, "###");
        due(t.exact(), 2);
        due(kinds(t, 0, 3, 3), "000000000");
        due(kinds(t, 1, 3, 3), "111111111");
        Tilecount other = of(3, 3);
        with(with(other, false, false, 3, "###"), false, false, 3, "#", "#", "#");
        due(kinds(other, 0, 3, 3), "000000000");
    }

    /** The four covers of a corner by three pieces of three cells and one of four. */
    private static void cornerInOrder(Tilecount t) {
        due(t.exact(), 4);
        due(kinds(t, 0, 7, 1), "0001111");
        due(kinds(t, 1, 7, 1), "0000000");
        due(t.kindAt(1, 0, 3), 1);
        due(kinds(t, 2, 7, 1), "1111000");
        due(kinds(t, 3, 7, 1), "1000000");
    }

    @Says(at = 0, is = AHEAD)
    static void ofOneKindTheCellsThatComeFirstAreAhead() {
        cornerInOrder(with(with(picture(CORNER), true, false, 3, "###"), true, false, 1, "####"));
    }

    @Says(at = 0, is = AHEAD)
    static void itDoesNotMatterWhichWayAShapeWasTyped() {
        cornerInOrder(with(with(picture(CORNER), true, false, 3, "#", "#", "#"), true, false, 1, "#", "#", "#", "#"));
    }

    @Says(at = 0, is = AHEAD)
    static void theCellsOfAPieceThatGoesRoundComeByRows() {
        Tilecount t = with(with(rolled(8, 1), false, false, 1, "###"), false, false, 1, "#####");
        due(t.exact(), 8);
        String[] due = {"00011111", "00111110", "01111100", "11111000", "11110001", "11100011", "11000111", "10001111"};
        for (int i = 0; i < 8; i++) {
            due(kinds(t, i, 8, 1), due[i]);
        }
    }

    @Says(at = 0, is = ALIKE)
    static void turnsAndMirroringsOfASquareAreAlike() {
        due(with(of(3, 3), true, false, 3, "###").unlike(), 1);
        due(with(of(3, 3), true, false, 3, "###").exact(), 2);
        due(with(of(4, 4), true, false, 4, "####").unlike(), 1);
        due(with(of(4, 4), true, true, 4, "###", "#..").unlike() < with(of(4, 4), true, true, 4, "###", "#..").exact(),
            true);
    }

    @Says(at = 0, is = ALIKE)
    static void aCoverThatAQuarterTurnTakesToItselfCountsOnce() {
        Tilecount ring = with(form('o', 4), true, false, 4, "###");
        due(ring.exact(), 2);
        due(ring.unlike(), 1);
        Tilecount hooks = with(form('o', 4), true, false, 4, "##", "#.");
        due(hooks.exact(), 1);
        due(hooks.unlike(), 1);
    }

    @Says(at = 0, is = ALIKE)
    static void aRectangleThatIsNoSquareIsNotTurnedByAQuarter() {
        String[] rows = {"....", ".###", ".###", ".###", "...."};
        Tilecount t = with(picture(rows), true, false, 3, "###");
        due(t.exact(), 2);
        due(t.unlike(), 2);
        Tilecount half = with(of(7, 1), false, false, 1, "###");
        with(half, false, false, 1, "####");
        due(half.exact(), 2);
        due(half.unlike(), 1);
        Tilecount down = with(of(1, 7), true, false, 1, "###");
        with(down, true, false, 1, "####");
        due(down.unlike(), 1);
    }

    @Says(at = 0, is = ALIKE)
    static void aMotionThatDoesNotKeepTheBoardMakesNothingAlike() {
        Tilecount t = with(picture("####", "####", "####", "...."), true, false, 4, "###");
        due(t.exact(), 3);
        due(t.unlike(), 2);
        Tilecount left = with(with(picture(".#######"), false, false, 1, "###"), false, false, 1, "####");
        due(left.exact(), 2);
        due(left.unlike(), 2);
    }

    @Says(at = 0, is = ALIKE)
    static void eachPieceIsTakenToOneOfItsKind() {
        Tilecount same = with(of(6, 1), false, false, 2, "###");
        due(same.unlike(), 1);
        Tilecount t = with(with(of(2, 3), false, false, 2, "##", "#."), false, false, 2, ".#", "##");
        due(t.exact(), 1);
        due(t.unlike(), 1);
        Tilecount hooks = with(of(2, 3), true, false, 2, "##", "#.");
        due(hooks.exact(), 2);
        due(hooks.unlike(), 1);
        Tilecount four = with(with(of(2, 3), false, false, 1, "##", "#."), false, false, 1, ".#", "##");
        with(with(four, false, false, 1, "##", ".#"), false, false, 1, "#.", "##");
        due(four.exact(), 2);
        due(four.unlike(), 2);
    }

    // ---- 30 ----

    @Says(at = 30, is = {"Types a cell of a piece.", "`x`: 0 to 5"})
    static void xIsNoughtToFive() {
        range(BAD, () -> busy(of(4, 4)), 0, 5, (t, n) -> t.pieceCell(n, 5));
    }

    @Says(at = 30, is = "`y`: 0 to 5")
    static void yIsNoughtToFive() {
        range(BAD, () -> busy(of(4, 4)), 0, 5, (t, n) -> t.pieceCell(5, n));
    }

    @Says(at = 30, is = "Returns how many are typed, like ones once.")
    static void aCellTypedTwiceCountsOnce() {
        Tilecount t = new Tilecount();
        due(t.pieceCell(5, 5), 1);
        due(t.pieceCell(5, 5), 1);
        due(t.pieceCell(0, 5), 2);
        due(t.pieceCell(5, 0), 3);
        due(t.pieceCell(0, 0), 4);
        due(t.pieceCell(0, 5), 4);
    }

    @Says(at = 30, is = "Returns how many are typed, like ones once.")
    static void oneOfSixCanBeTypedAgain() {
        Tilecount t = typed("######");
        for (int x = 0; x < 6; x++) {
            due(t.pieceCell(x, 0), 6);
        }
    }

    @Says(at = 30, is = "Throws `IllegalArgumentException` if a number is out of range")
    static void aCellOutOfRangeIsRefusedAheadOfASeventh() {
        refused(BAD, () -> typed("######"), t -> t.pieceCell(6, 0), t -> t.pieceCell(0, 6), t -> t.pieceCell(-1, 0),
            t -> t.pieceCell(0, -1));
        refused(BAD, Tilecount::new, t -> t.pieceCell(6, 6), t -> t.pieceCell(-1, -1));
    }

    @Says(at = 30, is = "Throws `IllegalStateException` if 6 others are typed")
    static void aSeventhCellIsRefused() {
        refused(STATE, () -> typed("######"), t -> t.pieceCell(0, 1), t -> t.pieceCell(5, 5), t -> t.pieceCell(0, 5));
        Tilecount t = typed("#####");
        due(t.pieceCell(5, 0), 6);
    }

    // ---- 31 ----

    @Says(at = 31, is = "Makes a kind of the typed cells, of which none are typed then.")
    static void noneAreTypedBehindAKind() {
        Tilecount t = typed("###");
        t.kind(true, true, 1);
        refused(STATE, () -> with(new Tilecount(), true, true, 1, "###"), u -> u.kind(true, true, 1));
        due(t.pieceCell(0, 0), 1);
    }

    @Says(at = 31, is = "Makes a kind of the typed cells, of which none are typed then.")
    static void theTypedCellsStayIfAKindIsRefused() {
        Tilecount t = typed("#.##");
        due(outcome(t, u -> u.kind(true, true, 1)), "UnsupportedOperationException");
        due(t.pieceCell(1, 0), 4);
        due(outcome(t, u -> u.kind(true, true, 9)), "IllegalArgumentException");
        due(t.kind(true, true, 1), 2);
    }

    @Says(at = 31, is = "`isTurned`: whether it can be turned")
    static void aKindThatCantBeTurnedFitsOneWay() {
        due(with(of(1, 3), false, true, 1, "###").exact(), 0);
        due(with(of(1, 3), true, false, 1, "###").exact(), 1);
        due(with(of(3, 1), false, false, 1, "###").exact(), 1);
    }

    @Says(at = 31, is = "`isMirrored`: whether it can be mirrored")
    static void aKindThatCantBeMirroredFitsOneWay() {
        due(with(picture("##.", ".##"), true, false, 1, ".##", "##.").exact(), 0);
        due(with(picture("##.", ".##"), false, true, 1, ".##", "##.").exact(), 1);
        due(with(picture("##.", ".##"), false, false, 1, "##.", ".##").exact(), 1);
    }

    @Says(at = 31, is = "`many`: how many pieces of it there are, 1 to 8")
    static void thereAreOneToEightPieces() {
        range(BAD, () -> {
            Tilecount t = laden(new Tilecount());
            t.clear();
            type(t, "###");
            return t;
        }, 1, 8, (t, n) -> t.kind(true, true, n));
        for (int many = 1; many <= 8; many++) {
            String row = "########";
            Tilecount t = with(picture(row, row, row), false, false, many, "#", "#", "#");
            due(t.exact(), many == 8 ? 1 : 0);
        }
    }

    @Says(at = 31, is = "Returns how many shapes it has.")
    static void aKindHasOneToEightShapes() {
        due(kind(new Tilecount(), true, true, 1, ".#.", "###", ".#."), 1);
        due(kind(new Tilecount(), true, true, 1, "####", "#..."), 8);
        due(kind(new Tilecount(), true, true, 1, "#####", "#...."), 8);
        due(kind(new Tilecount(), true, true, 1, "######"), 2);
    }

    @Says(at = 31, is = "Throws `IllegalArgumentException` if the number is out of range")
    static void noPiecesOrNineAreRefusedAheadOfAll() {
        refused(BAD, () -> sixOn(new Tilecount()), t -> t.kind(true, true, 0), t -> t.kind(false, false, 9));
        refused(BAD, () -> typed("##.#"), t -> t.kind(true, true, -1), t -> t.kind(true, true, Integer.MAX_VALUE),
            t -> t.kind(true, true, Integer.MIN_VALUE));
    }

    @Says(at = 31, is = FEW)
    static void fewerThanThreeCellsAreRefused() {
        refused(STATE, Tilecount::new, t -> t.kind(true, true, 1));
        refused(STATE, () -> typed("#"), t -> t.kind(true, true, 1));
        refused(STATE, () -> typed("##"), t -> t.kind(true, true, 8));
        refused(STATE, () -> typed("#.#"), t -> t.kind(false, false, 8));
    }

    @Says(at = 31, is = FEW)
    static void aSeventhKindIsRefusedAheadOfItsCells() {
        refused(STATE, () -> sixOn(new Tilecount()), t -> t.kind(true, true, 1));
        for (String[] rows : new String[][] {{"#####"}, {"#.#", ".#."}, {"###"}}) {
            refused(STATE, () -> {
                Tilecount t = sixOn(new Tilecount());
                type(t, rows);
                return t;
            }, t -> t.kind(true, true, 1));
        }
    }

    @Says(at = 31, is = APART)
    static void cellsThatDoNotHangTogetherAreRefused() {
        refused(CANT, () -> typed("#.#", "#.."), t -> t.kind(true, true, 1));
        refused(CANT, () -> typed("###.##"), t -> t.kind(true, true, 1));
        refused(CANT, () -> typed("#.....", "......", "......", "......", "......", "....##"), t -> t.kind(true, true, 1));
        refused(CANT, () -> typed("#.....", "#.....", "......", "......", ".....#", ".....#"), t -> t.kind(true, true, 1));
    }

    @Says(at = 31, is = APART)
    static void aShapeThatASecondKindWouldTakeIsRefused() {
        refused(CANT, () -> {
            Tilecount t = with(with(new Tilecount(), true, true, 1, "###"), false, false, 1, "##", "#.");
            type(t, ".#", "##");
            return t;
        }, t -> t.kind(true, false, 1));
        refused(CANT, () -> {
            Tilecount t = with(new Tilecount(), true, true, 8, "###");
            type(t, "#", "#", "#");
            return t;
        }, t -> t.kind(false, false, 1));
    }

    // ---- 32 ----

    @Says(at = 32, is = {"Takes all kinds and typed cells away.", "Returns how many kinds there were."})
    static void clearTakesNoneOneOrSix() {
        Tilecount t = new Tilecount();
        due(t.clear(), 0);
        kind(t, true, true, 8, "###");
        due(t.clear(), 1);
        sixKinds(t);
        due(t.clear(), 6);
        due(t.clear(), 0);
        sixKinds(t);
        due(t.clear(), 6);
    }

    @Says(at = 32, is = "Takes all kinds and typed cells away.")
    static void clearTakesTypedCellsToo() {
        Tilecount t = typed("######");
        due(t.clear(), 0);
        due(t.pieceCell(3, 3), 1);
        Tilecount three = typed("###");
        three.clear();
        due(outcome(three, u -> u.kind(true, true, 1)), "IllegalStateException");
    }

    @Says(at = 32, is = "Takes all kinds and typed cells away.")
    static void clearLeavesBoardCoverAndText() {
        Tilecount t = busy(of(4, 4));
        long before = t.cells('a');
        t.clear();
        due((long) t.cells('a'), before);
        due(text(t), "-1");
        due(t.apart() > 0, true);
        due(t.undo(), 2);
        Tilecount three = with(of(3, 1), true, true, 1, "###");
        due(three.exact(), 1);
        three.clear();
        due(three.exact(), 0);
    }

    // ---- 33 ----

    @Says(at = 33, is = "Returns how many exact covers the board has.")
    static void exactCoversOfTwentyFourCells() {
        due(with(of(6, 4), true, true, 8, "##", "#.").exact(), 18);
        due(with(of(8, 3), true, false, 8, "###").exact(), 13);
        due(with(of(3, 8), true, false, 8, "###").exact(), 13);
        Tilecount t = with(form('a', 3), true, true, 8, "##", "#.");
        due(t.exact() > 0, true);
        Tilecount far = with(picture("###.....", "........", "........", "........", "........", "........", "........",
            ".....###"), false, false, 2, "###");
        due(far.exact(), 1);
    }

    @Says(at = 33, is = "Returns how many exact covers the board has.")
    static void exactFollowsEachChangeOfTheBoardAndTheKinds() {
        Tilecount t = of(6, 1);
        due(t.exact(), 0);
        kind(t, false, false, 2, "###");
        due(t.exact(), 1);
        t.roll(true);
        due(t.exact(), 3);
        t.cut(0, 0);
        due(t.exact(), 0);
        t.fill(0, 0);
        due(t.exact(), 3);
        kind(t, false, false, 2, "######");
        due(t.exact(), 4);
        t.board(3, 1);
        due(t.exact(), 1);
        t.clear();
        due(t.exact(), 0);
    }

    @Says(at = 33, is = TOO_MANY_CELLS)
    static void exactIsRefusedFromTwentyFiveCells() {
        refused(CANT, () -> laden(of(5, 5)), Tilecount::exact);
        refused(CANT, () -> busy(of(8, 8)), Tilecount::exact);
        Tilecount t = with(of(5, 5), true, true, 8, "###");
        t.cut(2, 2);
        due(outcome(t, Tilecount::exact) instanceof Integer, true);
        t.fill(2, 2);
        due(outcome(t, Tilecount::exact), "UnsupportedOperationException");
        due(outcome(rolled(6, 4), Tilecount::exact), 0);
        due(outcome(form('a', 3), Tilecount::exact), 0);
    }

    // ---- 34 ----

    @Says(at = 34, is = {"Returns how many unlike exact covers the board has.", "Returns how many, alike ones once."})
    static void unlikeCoversOfNoneOneAndTwentyFourCells() {
        due(new Tilecount().unlike(), 1);
        due(of(1, 1).unlike(), 0);
        due(with(of(3, 1), false, false, 1, "###").unlike(), 1);
        due(with(of(8, 3), true, false, 8, "###").unlike(), 8);
        due(outcome(of(6, 4), Tilecount::unlike), 0);
    }

    @Says(at = 34, is = "Throws `UnsupportedOperationException` if the board has more than 24 cells, or is rolled")
    static void unlikeIsRefusedFromTwentyFiveCells() {
        refused(CANT, () -> laden(of(5, 5)), Tilecount::unlike);
        Tilecount t = with(of(5, 5), true, true, 8, "###");
        t.cut(2, 2);
        due(outcome(t, Tilecount::unlike) instanceof Integer, true);
    }

    @Says(at = 34, is = "Throws `UnsupportedOperationException` if the board has more than 24 cells, or is rolled")
    static void unlikeIsRefusedIfTheBoardIsRolled() {
        refused(CANT, () -> busy(rolled(4, 1)), Tilecount::unlike);
        Tilecount t = with(rolled(4, 3), true, false, 4, "###");
        due(outcome(t, Tilecount::unlike), "UnsupportedOperationException");
        t.roll(false);
        due(t.unlike(), 2);
    }

    // ---- 35 ----

    private static Tilecount seven() {
        return laden(with(with(of(7, 1), false, false, 1, "####"), false, false, 1, "#####"));
    }

    @Says(at = 35, is = "`index`: the number of the exact cover")
    static void theIndexGoesFromNoughtToOneLess() {
        due(seven().exact(), 2);
        range(NONE, PieceBoundary::seven, 0, 1, (t, n) -> t.kindAt(n, 0, 0));
    }

    @Says(at = 35, is = {"Returns the kind that has a cell in an exact cover.",
        "Returns the number of the kind, from 0, as they were made."})
    static void kindsAreNumberedAsTheyWereMade() {
        Tilecount t = sixOn(of(6, 1));
        due(t.kindAt(0, 5, 0), 0);
        t.clear();
        with(with(t, true, true, 1, "######"), true, true, 2, "###");
        due(kinds(t, 0, 6, 1), "000000");
        due(kinds(t, 1, 6, 1), "111111");
        t.clear();
        with(with(t, true, true, 2, "###"), true, true, 1, "######");
        due(kinds(t, 0, 6, 1), "000000");
        due(kinds(t, 1, 6, 1), "111111");
        due(kinds(sixOn(picture("##.", ".##")), 0, 3, 2), "55..55");
    }

    @Says(at = 35, is = "`x`: the x of the cell")
    static void theCellHasAnXFromNoughtToOneLess() {
        range(INDEX, PieceBoundary::seven, 0, 6, (t, n) -> t.kindAt(1, n, 0));
    }

    @Says(at = 35, is = "`y`: its y")
    static void theCellHasAYFromNoughtToOneLess() {
        range(INDEX, () -> with(of(1, 3), true, false, 1, "###"), 0, 2, (t, n) -> t.kindAt(0, 0, n));
    }

    @Says(at = 35, is = {"`x`: the x of the cell", "`y`: its y"})
    static void theCellIsOneOfTheBoard() {
        Tilecount t = with(picture(".......#", ".......#", ".......#"), true, true, 1, "###");
        due(t.kindAt(0, 7, 0), 0);
        due(t.kindAt(0, 7, 2), 0);
        due(outcome(t, u -> u.kindAt(0, 6, 0)), "IndexOutOfBoundsException");
        due(outcome(t, u -> u.kindAt(0, 7, 3)), "IndexOutOfBoundsException");
    }

    @Says(at = 35, is = TOO_MANY_CELLS)
    static void kindAtIsRefusedFromTwentyFiveCells() {
        refused(CANT, () -> laden(of(5, 5)), t -> t.kindAt(0, 0, 0), t -> t.kindAt(-1, 0, 0), t -> t.kindAt(0, 5, 5));
        Tilecount t = with(of(6, 4), true, true, 8, "##", "#.");
        due(t.kindAt(17, 5, 3), 0);
    }

    @Says(at = 35, is = "Throws `NoSuchElementException` if there is no such exact cover")
    static void anExactCoverThatIsNotThereIsRefusedAheadOfACell() {
        refused(NONE, PieceBoundary::seven, t -> t.kindAt(2, 0, 0), t -> t.kindAt(-1, 0, 0), t -> t.kindAt(2, 7, 0),
            t -> t.kindAt(-1, 0, 1));
        refused(NONE, () -> laden(of(4, 1)), t -> t.kindAt(0, 0, 0), t -> t.kindAt(0, 9, 9));
        refused(NONE, Tilecount::new, t -> t.kindAt(1, 0, 0));
        due(outcome(of(1, 1), t -> t.kindAt(0, 0, 0)), "NoSuchElementException");
    }

    @Says(at = 35, is = "Throws `IndexOutOfBoundsException` if the board has no such cell")
    static void aCellThatTheBoardHasNotIsRefused() {
        beyond(INDEX, PieceBoundary::seven, 0, 6, (t, n) -> t.kindAt(1, n, 0));
        beyond(INDEX, PieceBoundary::seven, 0, 0, (t, n) -> t.kindAt(0, 0, n));
        refused(INDEX, Tilecount::new, t -> t.kindAt(0, 0, 0));
        refused(INDEX, () -> with(rolledPicture("##.#"), false, false, 1, "###"), t -> t.kindAt(0, 2, 0),
            t -> t.kindAt(0, 4, 0), t -> t.kindAt(0, -1, 0));
    }
}
