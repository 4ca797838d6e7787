import java.util.HashSet;
import java.util.Set;

/** The boundaries that the terms name ahead of all promises: boards, covers, heights, the text, exceptions. */
final class TermsBoundary extends Checks {

    private static final String CELLS = "A board has a width w and a height h, 1 to 8 each, and cells x, y, x from 0 to w "
        + "less 1 to the right, y from 0 to h less 1 downward, or some of them;";
    private static final String HOLE = "A hole is all missing cells that can be reached from one of them by missing "
        + "cells that touch at a side (also round, if it is rolled), if none of them is at the upper or lower rim, nor, "
        + "if it is not rolled, at the left or right one.";
    private static final String GO = "Each call that tells, cuts, fills or rolls a board, also if nothing changes by it, "
        + "lets the cover, the kept cover, and what can be undone go.";
    private static final String AHEAD = "of two ahead is that which has at the first cell, by rows, that is in unlike "
        + "pieces, a piece to the right ahead of one down ahead of one to the left, round a board that is rolled.";
    private static final String LINE = "A line is between two neighbouring columns, or rows, of the board, on one that is "
        + "rolled also between the last and the first column, whether there are cells at it or not;";
    private static final String ROUND_FLIP = "on a board that is rolled this can stand at the end of a row, the right "
        + "ones at its beginning.";
    private static final String FIRST = "The first one, by rows, of all corners of cells that can be reached from one "
        + "another along sides of cells of the board, is 0;";
    private static final String DARK = "along a side of a cell of the board that has a dark cell, on the board or not, on "
        + "the left hand, the height is 1 more, or, if a piece lies across the side, 3 less;";
    private static final String TEXT = "Some calls put a number there, in digits, perhaps with '-' ahead, in place of what "
        + "it was;";
    private static final String LIGHT = "with a light cell there 1 less, or 3 more.";

    // ---- the object ----

    @Says(at = 0, is = "An object is used for at most 512 calls after it has been made;")
    static void theLastCallIsAnsweredAsTheFirst() {
        Tilecount t = new Tilecount();
        t.board(4, 4);
        t.draw(0);
        for (int call = 3; call <= 510; call++) {
            due(t.next(), (call - 2) % 36 != 0);
        }
        due(t.number(), 1);
        due(t.signAt(0), '4');
    }

    @Says(at = 0, is = "There is an empty board of 1 and 1 at first, with no cell.")
    static void theFirstBoardIsOneByOneAndEmpty() {
        Tilecount t = new Tilecount();
        due(t.checksum(), sumOf(1, 1, 0, 0, 0));
        due(t.cells('a'), 0);
        due(t.has(0, 0), false);
        refused(INDEX, Tilecount::new, u -> u.cut(0, 0), u -> u.fill(1, 0), u -> u.fill(0, 1));
        refused(CANT, Tilecount::new, u -> u.roll(true));
        due(t.roll(false), false);
        due(t.fill(0, 0), 1);
        due(t.checksum(), sumOf(1, 1, 0, 1, 0));
    }

    @Says(at = 0, is = "There is no cover at first.")
    static void thereIsNoCoverAtFirst() {
        refused(NONE, Tilecount::new, Tilecount::next, Tilecount::previous, Tilecount::number, Tilecount::flips,
            t -> t.flip(0), Tilecount::keep, Tilecount::apart, Tilecount::cuts);
        refused(STATE, Tilecount::new, Tilecount::undo);
        refused(NONE, () -> of(2, 2), t -> t.other(0, 0), t -> t.height(0, 0));
    }

    // ---- boards ----

    @Says(at = 0, is = CELLS)
    static void cellsGoFromNoughtToOneLess() {
        for (int w = 1; w <= 8; w++) {
            for (int h = 1; h <= 8; h++) {
                Tilecount t = of(w, h);
                for (int i = 0; i < 121; i++) {
                    int x = i % 11 - 1;
                    int y = i / 11 - 1;
                    due(t.has(x, y), x >= 0 && x <= w - 1 && y >= 0 && y <= h - 1);
                }
            }
        }
    }

    @Says(at = 0, is = CELLS)
    static void xGoesToTheRightAndYDownward() {
        Tilecount t = of(2, 2);
        t.draw(0);
        due(codes(t, 2, 2), "ewew");
        t.draw(1);
        due(t.other(0, 0), 's');
        due(t.other(0, 1), 'n');
    }

    @Says(at = 0, is = CELLS)
    static void aBoardCanHaveAllSomeOrNoCells() {
        Tilecount t = of(2, 1);
        due(t.cells('a'), 2);
        due(t.cut(0, 0), 1);
        due(t.cut(1, 0), 0);
        due(t.has(0, 0) || t.has(1, 0), false);
        due(t.fill(1, 0), 1);
        due(t.fill(0, 0), 2);
        due(bare(8, 8).cells('a'), 0);
    }

    @Says(at = 0, is = "by rows is by rising y, then by rising x.")
    static void rowsComeAheadOfColumns() {
        Tilecount t = of(2, 2);
        t.cut(1, 0);
        due(t.checksum(), sumOf(2, 2, 0, 1, 0, 1, 1, 0));
        t.fill(1, 0);
        t.cut(0, 1);
        due(t.checksum(), sumOf(2, 2, 0, 1, 1, 0, 1, 0));
    }

    @Says(at = 0, is = "Neighbours of a cell are those beside it, above it and below it;")
    static void cellsBesideAboveAndBelowAreNeighbours() {
        due(picture(".#.", "###", ".#.").parts(), 1);
        due(of(1, 2).parts(), 1);
        due(of(2, 1).parts(), 1);
    }

    @Says(at = 0, is = "Neighbours of a cell are those beside it, above it and below it;")
    static void cellsThatTouchAtACornerAreNoNeighbours() {
        due(picture("#.", ".#").parts(), 2);
        due(picture(".#", "#.").parts(), 2);
        Tilecount t = picture("#.", ".#");
        due(text(t, t.covers()), "0");
        due(t.free(), 2);
    }

    @Says(at = 0, is = "Neighbours of a cell are those beside it, above it and below it;")
    static void theEndOfARowIsNoNeighbourOfTheNextBeginning() {
        due(picture(".......#", "#.......").parts(), 2);
        Tilecount t = rolledPicture(".......#", "#.......");
        due(t.parts(), 2);
        due(text(t, t.covers()), "0");
        due(t.free(), 2);
    }

    @Says(at = 0, is = "on a board that is rolled the first and the last cell of a row are neighbours, too.")
    static void theEndsOfARowAreNeighboursIfItIsRolled() {
        for (int w = 4; w <= 8; w += 2) {
            String row = "#......#".substring(0, w - 1) + "#";
            Tilecount t = picture(row);
            due(t.parts(), 2);
            due(t.free(), 2);
            due(text(t, t.covers()), "0");
            t.roll(true);
            due(t.parts(), 1);
            due(t.free(), 0);
            due(text(t, t.covers()), "1");
            t.draw(0);
            due(t.other(0, 0), 'w');
            due(t.other(w - 1, 0), 'e');
        }
    }

    @Says(at = 0, is = "on a board that is rolled the first and the last cell of a row are neighbours, too.")
    static void theEndsOfAColumnAreNoNeighbours() {
        Tilecount t = rolledPicture("#...", "....", "#...");
        due(t.parts(), 2);
        due(t.free(), 2);
        Tilecount full = rolledPicture("#...", "....", "....", "....", "....", "....", "....", "#...");
        due(full.parts(), 2);
        due(full.free(), 2);
    }

    @Says(at = 0, is = "A cell is dark if x and y are even together.")
    static void theFirstCellIsDarkAndEachSecondOne() {
        for (int i = 0; i < 64; i++) {
            Tilecount t = bare(8, 8);
            t.fill(i % 8, i / 8);
            due(t.cells('d'), (i % 8 + i / 8) % 2 == 0 ? 1 : 0);
        }
    }

    @Says(at = 0, is = "A board can be rolled if w is even and 4 at least.")
    static void onlyEvenWidthsFromFourCanBeRolled() {
        for (int w = 1; w <= 8; w++) {
            for (int h = 1; h <= 8; h++) {
                Object answer = outcome(of(w, h), t -> t.roll(true));
                due(answer, w == 4 || w == 6 || w == 8 ? false : "UnsupportedOperationException");
            }
        }
    }

    @Says(at = 0, is = "A part is all cells of the board that can be reached from one of them by neighbours.")
    static void aPartReachesAsFarAsItWinds() {
        String[] path = {"########", ".......#", "########", "#.......", "########", ".......#", "########", "#......."};
        due(picture(path).parts(), 1);
        Tilecount t = picture(path);
        t.cut(7, 1);
        due(t.parts(), 2);
        due(of(8, 8).parts(), 1);
        due(of(1, 1).parts(), 1);
    }

    @Says(at = 0, is = HOLE)
    static void whatIsAtTheUpperRimIsNoHole() {
        due(picture("###", "#.#", "###").holes(), 1);
        due(picture("#.#", "#.#", "###").holes(), 0);
        due(rolledPicture("#.##", "#.##", "####").holes(), 0);
        due(rolledPicture("####", "#.##", "####").holes(), 1);
    }

    @Says(at = 0, is = HOLE)
    static void whatIsAtTheLowerRimIsNoHole() {
        due(picture("###", "#.#", "#.#").holes(), 0);
        due(rolledPicture("####", "#.##", "#.##").holes(), 0);
        due(picture("####", "#.##", "####", "####", "####", "####", "##.#", "##.#").holes(), 1);
    }

    @Says(at = 0, is = HOLE)
    static void whatIsAtTheLeftRimIsAHoleOnlyIfItIsRolled() {
        Tilecount t = picture("####", "..##", "####");
        due(t.holes(), 0);
        t.roll(true);
        due(t.holes(), 1);
    }

    @Says(at = 0, is = HOLE)
    static void whatIsAtTheRightRimIsAHoleOnlyIfItIsRolled() {
        for (int w = 4; w <= 8; w += 2) {
            Tilecount t = of(w, 3);
            t.cut(w - 1, 1);
            due(t.holes(), 0);
            t.roll(true);
            due(t.holes(), 1);
            t.cut(w - 1, 2);
            due(t.holes(), 0);
        }
    }

    @Says(at = 0, is = HOLE)
    static void aHoleGoesRoundIfItIsRolled() {
        due(rolledPicture("####", ".##.", "####").holes(), 1);
        due(rolledPicture("####", ".#.#", "####").holes(), 2);
        due(rolledPicture("########", ".#####..", "########").holes(), 1);
        due(rolledPicture("######", ".####.", "#####.").holes(), 0);
        due(rolledPicture("####", "....", "####").holes(), 1);
    }

    @Says(at = 0, is = HOLE)
    static void missingCellsTouchAtASideAlone() {
        due(picture("####", "#.##", "##.#", "####").holes(), 2);
        due(picture(".###", "#.##", "####").holes(), 1);
        due(picture("#####", "##.##", "#...#", "##.##", "#####").holes(), 1);
        due(rolledPicture("####", ".###", "###.", "####").holes(), 2);
        due(rolledPicture("########", "#######.", ".#######", "########").holes(), 2);
    }

    @Says(at = 0, is = HOLE)
    static void aHoleThatWindsToTheRimIsNone() {
        String[] rows = {"########", "#......#", "######.#", "#......#", "#.######", "#......#", "######.#", "######.#"};
        Tilecount t = picture(rows);
        due(t.holes(), 0);
        t.fill(6, 7);
        due(t.holes(), 1);
    }

    // ---- what lets the cover go ----

    /** A board with all that a change of the board lets go. */
    private static Tilecount covered(Tilecount t) {
        t.draw(0);
        t.keep();
        t.next();
        return t;
    }

    private static void letsGo(Tilecount t) {
        hasNoCover(t);
        due(outcome(t, u -> u.draw(0)) instanceof Integer, true);
        t.draw(0);
        due(outcome(t, Tilecount::apart), "NoSuchElementException");
        due(t.undo(), 1);
        due(t.undo(), 0);
        due(outcome(t, Tilecount::number), "NoSuchElementException");
    }

    @Says(at = 0, is = GO)
    static void tellingABoardLetsTheCoverGo() {
        Tilecount t = covered(of(4, 4));
        t.board(2, 3);
        letsGo(t);
    }

    @Says(at = 0, is = GO)
    static void tellingTheSameBoardLetsTheCoverGo() {
        Tilecount t = covered(of(4, 4));
        t.board(4, 4);
        letsGo(t);
        Tilecount form = covered(form('a', 2));
        form.form('a', 2);
        letsGo(form);
    }

    private static void hasNoCover(Tilecount t) {
        due(outcome(t, Tilecount::number), "NoSuchElementException");
        due(outcome(t, Tilecount::undo), "IllegalStateException");
    }

    @Says(at = 0, is = GO)
    static void cuttingLetsTheCoverGo() {
        Tilecount t = covered(of(4, 4));
        t.cut(3, 3);
        hasNoCover(t);
        t.cut(2, 3);
        letsGo(t);
    }

    @Says(at = 0, is = GO)
    static void fillingLetsTheCoverGo() {
        Tilecount t = covered(picture("####", "####", "####", "##.."));
        t.fill(2, 3);
        hasNoCover(t);
        t.fill(3, 3);
        letsGo(t);
    }

    @Says(at = 0, is = GO)
    static void rollingLetsTheCoverGo() {
        Tilecount t = covered(of(4, 2));
        t.roll(true);
        hasNoCover(t);
        covered(t);
        t.roll(false);
        letsGo(t);
    }

    @Says(at = 0, is = GO)
    static void rollingThatChangesNothingLetsTheCoverGo() {
        Tilecount t = covered(of(4, 2));
        due(t.roll(false), false);
        letsGo(t);
        Tilecount round = covered(rolled(4, 2));
        due(round.roll(true), true);
        hasNoCover(round);
    }

    @Says(at = 0, is = GO)
    static void aRefusedChangeLetsNothingGo() {
        refused(BAD, () -> busy(of(4, 4)), t -> t.board(0, 4), t -> t.board(4, 9), t -> t.form('a', 5));
        refused(INDEX, () -> busy(of(4, 4)), t -> t.cut(4, 0), t -> t.fill(0, 0));
        refused(CANT, () -> busy(of(3, 4)), t -> t.roll(true));
    }

    @Says(at = 0, is = GO)
    static void noOtherCallLetsTheCoverGo() {
        Tilecount t = busy(form('a', 2));
        int far = t.apart();
        due(far > 0, true);
        t.covers();
        t.bySigns();
        t.having(1, 0, true);
        t.free();
        t.exact();
        t.unlike();
        t.clear();
        t.strip(2, 2);
        t.rooks(2);
        t.loops();
        t.isSound();
        due(t.apart(), far);
        due(t.undo(), 2);
        due(t.undo(), 1);
        due(t.apart(), 0);
    }

    // ---- covers ----

    @Says(at = 0, is = "A piece is two neighbours of the board, across or down;")
    static void aPieceHasBothCellsOnTheBoard() {
        refused(INDEX, () -> picture("#.", "##"), t -> t.having(0, 0, true), t -> t.having(1, 0, true),
            t -> t.having(1, 0, false), t -> t.having(0, 1, false), t -> t.having(1, 1, true));
        Tilecount t = picture("#.", "##");
        due(text(t, t.having(0, 0, false)), "0");
        due(text(t, t.having(0, 1, true)), "0");
    }

    @Says(at = 0, is = "a cover has each cell in just one piece.")
    static void anEmptyBoardHasOneCoverWithoutPieces() {
        for (Tilecount t : new Tilecount[] {new Tilecount(), bare(8, 8), bare(3, 2)}) {
            due(text(t, t.covers()), "1");
            due(t.draw(0), 0);
            due(t.next(), false);
        }
    }

    @Says(at = 0, is = "a cover has each cell in just one piece.")
    static void aCellLeftOverLeavesNoCover() {
        for (Tilecount t : new Tilecount[] {of(1, 1), of(3, 3), picture("#.", ".#"), form('c', 8), picture("##.#")}) {
            due(text(t, t.covers()), "0");
            due(outcome(t, u -> u.draw(0)), "NoSuchElementException");
        }
    }

    @Says(at = 0, is = "Covers are numbered from 0:")
    static void theFirstCoverHasTheNumberNought() {
        Tilecount t = of(8, 8);
        t.draw(0);
        due(text(t, t.number()), "0");
        t.draw(12988815);
        due(text(t, t.number()), "12988815");
        t.draw(12988816);
        due(text(t, t.number()), "0");
    }

    private static void inOrder(Start start, int w, int h, int many) {
        String before = "";
        for (int i = 0; i < many; i++) {
            Tilecount t = start.make();
            t.draw(i);
            String codes = codes(t, w, h);
            int at = 0;
            while (i > 0 && at < codes.length() - 1 && codes.charAt(at) == before.charAt(at)) {
                at++;
            }
            due(i == 0 || "esw".indexOf(before.charAt(at)) < "esw".indexOf(codes.charAt(at)), true);
            before = codes;
        }
        Tilecount t = start.make();
        due(text(t, t.covers()), String.valueOf(many));
    }

    @Says(at = 0, is = AHEAD)
    static void toTheRightIsAheadOfDown() {
        inOrder(() -> of(4, 4), 4, 4, 36);
        Tilecount t = of(8, 8);
        t.draw(0);
        due(codes(t, 8, 8).replace("ew", ""), "");
        t.draw(-1);
        due(codes(t, 8, 8).replace("ssssssssnnnnnnnn", ""), "");
    }

    @Says(at = 0, is = AHEAD)
    static void downIsAheadOfLeftRoundARolledBoard() {
        inOrder(() -> rolled(4, 2), 4, 2, 9);
        inOrder(() -> rolled(4, 3), 4, 3, 32);
        Tilecount t = rolled(4, 2);
        t.draw(8);
        due(codes(t, 4, 2), "wssewnne");
        t.previous();
        due(codes(t, 4, 2), "wewewewe");
        t.previous();
        due(codes(t, 4, 2), "weweewew");
    }

    @Says(at = 0, is = "A flip turns two pieces beside each other that fill two cells by two, by which they lie the other way;")
    static void twoThatDoNotFillTwoByTwoAreNoFlip() {
        Tilecount row = of(4, 1);
        row.draw(0);
        due(row.flips(), 0);
        Tilecount column = of(1, 4);
        column.draw(0);
        due(column.flips(), 0);
        due(drawAs(() -> rolled(4, 2), 4, 2, "ewewwewe").flips(), 0);
        due(drawAs(() -> picture(".#", "##", "#."), 2, 3, ".ssnn.").flips(), 0);
        due(drawAs(() -> picture(".##", "##."), 3, 2, ".ewew.").flips(), 0);
    }

    @Says(at = 0, is = "A flip turns two pieces beside each other that fill two cells by two, by which they lie the other way;")
    static void aFlipTurnsAcrossToDownAndBack() {
        Tilecount t = of(2, 2);
        t.draw(0);
        due(t.flip(0), 1);
        due(codes(t, 2, 2), "ssnn");
        due(t.flip(0), 1);
        due(codes(t, 2, 2), "ewew");
    }

    @Says(at = 0, is = "flips are numbered from 0 by the upper left cell of the four, by rows;")
    static void flipsAreNumberedByRows() {
        String[] due = {"ssewnnewewewewew", "ewssewnnewewewew", "ewewssewnnewewew", "ewewewssewnnewew",
            "ewewewewssewnnew", "ewewewewewssewnn"};
        for (int i = 0; i < due.length; i++) {
            Tilecount t = of(4, 4);
            t.draw(0);
            due(t.flips(), 6);
            t.flip(i);
            due(codes(t, 4, 4), due[i]);
        }
    }

    @Says(at = 0, is = ROUND_FLIP)
    static void aFlipStandsAtTheEndOfARowIfItIsRolled() {
        Tilecount t = drawAs(() -> rolled(4, 2), 4, 2, "wewewewe");
        due(t.flips(), 2);
        t.flip(1);
        due(codes(t, 4, 2), "sewsnewn");
        due(t.flips(), 2);
        t.flip(1);
        due(codes(t, 4, 2), "wewewewe");
        due(drawAs(() -> of(4, 2), 4, 2, "sewsnewn").flips(), 1);
    }

    @Says(at = 0, is = LINE)
    static void thereIsALineLessThanColumnsAndThanRows() {
        for (int w = 1; w <= 8; w++) {
            for (int h = 1; h <= 8; h++) {
                Tilecount t = bare(w, h);
                t.draw(0);
                due(t.cuts(), w + h - 2);
            }
        }
    }

    @Says(at = 0, is = LINE)
    static void onARolledBoardThereIsALineMore() {
        for (int w = 4; w <= 8; w += 2) {
            for (int h = 1; h <= 8; h++) {
                Tilecount t = bare(w, h);
                t.roll(true);
                t.draw(0);
                due(t.cuts(), w + h - 1);
            }
        }
    }

    @Says(at = 0, is = "a cut is one that no piece crosses.")
    static void onePieceAcrossALineIsEnough() {
        due(drawAs(() -> of(2, 2), 2, 2, "ewew").cuts(), 1);
        due(drawAs(() -> of(2, 2), 2, 2, "ssnn").cuts(), 1);
        due(drawAs(() -> picture("##.", ".##"), 3, 2, "ew..ew").cuts(), 1);
        due(drawAs(() -> of(2, 1), 2, 1, "ew").cuts(), 0);
        due(drawAs(() -> of(1, 2), 1, 2, "sn").cuts(), 0);
    }

    @Says(at = 0, is = "a cut is one that no piece crosses.")
    static void aPieceRoundCrossesTheLineRound() {
        due(drawAs(() -> rolled(4, 1), 4, 1, "wewe").cuts(), 2);
        due(drawAs(() -> rolled(4, 1), 4, 1, "ewew").cuts(), 2);
        due(drawAs(() -> rolledPicture("#..#"), 4, 1, "w..e").cuts(), 3);
    }

    // ---- heights ----

    @Says(at = 0, is = "Heights, of a cover of a board that is not rolled and has no hole.")
    static void thereAreNoHeightsOnARolledBoardOrRoundAHole() {
        refused(CANT, () -> busy(rolled(4, 4)), t -> t.height(0, 0), Tilecount::apart);
        refused(CANT, () -> busy(form('o', 4)), t -> t.height(0, 0), Tilecount::apart);
        Tilecount t = rolled(4, 4);
        t.roll(false);
        t.draw(0);
        due(t.height(0, 0), 0);
    }

    @Says(at = 0, is = "Corners are told by the cell to the right and below of which they are the upper left corner, up to "
        + "x w and y h.")
    static void cornersGoUpToWidthAndHeight() {
        for (int w = 1; w <= 8; w++) {
            for (int h = 2; h <= 8; h += 2) {
                int far = w;
                int low = h;
                Tilecount t = of(w, h);
                t.draw(0);
                due(outcome(t, u -> u.height(far, low)) instanceof Integer, true);
                due(outcome(t, u -> u.height(far, 0)) instanceof Integer, true);
                due(outcome(t, u -> u.height(0, low)) instanceof Integer, true);
                due(outcome(t, u -> u.height(far + 1, low)), "IndexOutOfBoundsException");
                due(outcome(t, u -> u.height(far, low + 1)), "IndexOutOfBoundsException");
                due(outcome(t, u -> u.height(-1, 0)), "IndexOutOfBoundsException");
                due(outcome(t, u -> u.height(0, -1)), "IndexOutOfBoundsException");
            }
        }
    }

    @Says(at = 0, is = FIRST)
    static void theFirstCornerByRowsIsNought() {
        Tilecount t = picture("..##", "####", "##..");
        t.draw(0);
        due(t.height(2, 0), 0);
        due(t.height(0, 1) != 0 || t.height(1, 1) != 0, true);
        heightsFit(t, 4, 3);
    }

    @Says(at = 0, is = FIRST)
    static void cornersThatNoSidesJoinHaveANoughtEach() {
        Tilecount t = picture("##....", "....##");
        t.draw(0);
        due(t.height(0, 0), 0);
        due(t.height(1, 0), -1);
        due(t.height(4, 1), 0);
        due(t.height(5, 1), 1);
        Tilecount two = picture("#.##", "#.##");
        two.draw(0);
        due(two.height(0, 0), 0);
        due(two.height(2, 0), 0);
        due(two.height(3, 0), -1);
        Tilecount below = picture("##", "..", "##");
        below.draw(0);
        due(below.height(0, 1), 1);
        due(below.height(0, 2), 0);
        due(below.height(1, 2), -1);
        due(below.height(0, 3), 1);
    }

    @Says(at = 0, is = FIRST)
    static void cornersAreReachedUpwardAndToTheLeft() {
        Tilecount up = picture("#..#", "#..#", "####");
        up.draw(0);
        heightsFit(up, 4, 3);
        due(up.height(3, 0), -1);
        Tilecount left = picture("...#", "####", "#...");
        left.draw(0);
        due(left.height(3, 0), 0);
        heightsFit(left, 4, 3);
        Tilecount hook = picture("..##", "...#", "##.#", "#..#", "####");
        hook.draw(0);
        due(hook.height(2, 0), 0);
        heightsFit(hook, 4, 5);
    }

    @Says(at = 0, is = FIRST)
    static void partsThatTouchAtACornerHaveOneNought() {
        Tilecount t = picture("##...", "..##.", "....#", "....#");
        t.draw(0);
        due(t.height(0, 0), 0);
        heightsFit(t, 5, 4);
        due(t.height(2, 1), 1);
        due(t.height(3, 1), 2);
        Tilecount down = picture("#..", "#..", ".##", ".##");
        down.draw(0);
        due(down.height(1, 2), -1);
        heightsFit(down, 3, 4);
    }

    private static boolean isOn(boolean[][] on, int x, int y) {
        return y >= 0 && y < on.length && x >= 0 && x < on[0].length && on[y][x];
    }

    /** Each height set beside those of the corners to the right and below, by the words of the document. */
    private static void heightsFit(Tilecount t, int w, int h) {
        boolean[][] on = new boolean[h][w];
        char[][] code = new char[h][w];
        for (int y = 0; y < h; y++) {
            for (int x = 0; x < w; x++) {
                on[y][x] = t.has(x, y);
                code[y][x] = on[y][x] ? t.other(x, y) : '.';
            }
        }
        for (int y = 0; y <= h; y++) {
            for (int x = 0; x <= w; x++) {
                if (isOn(on, x, y - 1) || isOn(on, x, y)) {
                    boolean isCrossed = isOn(on, x, y - 1) && code[y - 1][x] == 's';
                    due(t.height(x + 1, y) - t.height(x, y), rise(x + y - 1, isCrossed));
                }
                if (isOn(on, x, y) || isOn(on, x - 1, y)) {
                    boolean isCrossed = isOn(on, x - 1, y) && code[y][x - 1] == 'e';
                    due(t.height(x, y + 1) - t.height(x, y), rise(x + y, isCrossed));
                }
            }
        }
    }

    private static int rise(int sumOfLeftCell, boolean isCrossed) {
        if (Math.floorMod(sumOfLeftCell, 2) == 0) {
            return isCrossed ? -3 : 1;
        }
        return isCrossed ? 3 : -1;
    }

    @Says(at = 0, is = DARK)
    static void withADarkCellOnTheLeftItRisesByOneOrFallsByThree() {
        Tilecount t = of(2, 1);
        t.draw(0);
        due(t.height(0, 1) - t.height(0, 0), 1);
        due(t.height(1, 0) - t.height(1, 1), -3);
        Tilecount down = of(1, 2);
        down.draw(0);
        due(down.height(0, 1) - down.height(0, 0), 1);
        due(down.height(1, 1) - down.height(0, 1), -3);
    }

    @Says(at = 0, is = LIGHT)
    static void withALightCellOnTheLeftItFallsByOneOrRisesByThree() {
        Tilecount t = of(2, 1);
        t.draw(0);
        due(t.height(1, 0) - t.height(0, 0), -1);
        due(t.height(1, 1) - t.height(1, 0), 3);
        Tilecount down = of(1, 2);
        down.draw(0);
        due(down.height(0, 2) - down.height(0, 1), -1);
        due(down.height(0, 1) - down.height(1, 1), 3);
    }

    @Says(at = 0, is = {DARK, LIGHT})
    static void allSidesOfAllCoversRiseAndFallSo() {
        Tilecount t = of(2, 1);
        t.draw(0);
        int[] due = {0, -1, 0, 1, 2, 1};
        for (int i = 0; i < 6; i++) {
            due(t.height(i % 3, i / 3), due[i]);
        }
        Tilecount down = of(1, 2);
        down.draw(0);
        int[] dueDown = {0, -1, 1, -2, 0, -1};
        for (int i = 0; i < 6; i++) {
            due(down.height(i % 2, i / 2), dueDown[i]);
        }
        for (int i = 0; i < 36; i++) {
            Tilecount four = of(4, 4);
            four.draw(i);
            due(four.height(0, 0), 0);
            heightsFit(four, 4, 4);
        }
    }

    @Says(at = 0, is = {DARK, LIGHT})
    static void theCellOnTheLeftHandNeedNotBeOnTheBoard() {
        Tilecount t = of(8, 8);
        t.draw(0);
        for (int i = 0; i <= 8; i++) {
            due(t.height(i, 0), i % 2 == 0 ? 0 : -1);
            due(t.height(i, 8), i % 2 == 0 ? 0 : -1);
            due(t.height(0, i), i % 2 == 0 ? 0 : 1);
            due(t.height(8, i), i % 2 == 0 ? 0 : 1);
        }
    }

    // ---- the text, exceptions ----

    @Says(at = 0, is = "empty at first.")
    static void theTextIsEmptyAtFirst() {
        refused(INDEX, Tilecount::new, t -> t.signAt(0));
        due(new Tilecount().checksum(), sumOf(1, 1, 0, 0, 0));
    }

    @Says(at = 0, is = TEXT)
    static void aShortNumberStandsInPlaceOfALongOne() {
        Tilecount t = of(8, 8);
        due(text(t, t.strip(6, 300)).length() > 100, true);
        due(text(t, t.covers()), "12988816");
        due(text(t, t.rooks(0)), "1");
        due(text(t, t.rule(1, 1)), "0");
        due(text(t, t.rule(6, 4)), "-38");
        due(text(t, t.rule(6, 3)), "10");
    }

    @Says(at = 0, is = TEXT)
    static void noMinusIsLeftOfTheNumberAhead() {
        Tilecount t = of(4, 4);
        NumberCall[] calls = {(u, n) -> u.covers(), (u, n) -> u.bySigns(), (u, n) -> u.having(0, 0, true),
            (u, n) -> u.strip(4, 4), (u, n) -> u.hexagon(2, 2, 2), (u, n) -> u.heaps(2, 2, 2), (u, n) -> u.rooks(4),
            (u, n) -> u.loops(), (u, n) -> u.rule(4, 2)};
        String[] due = {"36", "36", "18", "36", "20", "20", "24", "6", "5"};
        for (int i = 0; i < calls.length; i++) {
            due(text(t, t.rule(5, 4)), "-32");
            due(calls[i].on(t, 0), due[i].length());
            due(text(t), due[i]);
        }
        t.draw(11);
        t.rule(5, 4);
        due(text(t, t.number()), "11");
    }

    @Says(at = 0, is = TEXT)
    static void noOtherCallChangesTheText() {
        Tilecount t = busy(form('a', 2));
        String before = text(t);
        t.share(1, 0, true);
        t.free();
        t.roles('f');
        t.exact();
        t.unlike();
        t.order(6);
        t.mostRooks();
        t.cuts();
        t.flips();
        t.apart();
        t.height(1, 1);
        t.meanPart();
        t.isSound();
        t.undo();
        t.clear();
        t.board(3, 3);
        t.form('o', 3);
        t.cut(0, 0);
        t.fill(0, 0);
        t.roll(false);
        due(text(t), before);
        due(before, "-1");
    }

    @Says(at = 0, is = "A method that throws an exception changes nothing.")
    static void whatIsRefusedChangesNothing() {
        refused(BAD, () -> busy(of(4, 4)), t -> t.cells('b'), t -> t.roles('F'), t -> t.pieceCell(6, 0),
            t -> t.kind(true, true, 0), t -> t.strip(7, 1), t -> t.order(0), t -> t.rule(0, 1), t -> t.hexagon(1, 9, 1),
            t -> t.heaps(1, 1, 0), t -> t.rooks(9));
        refused(INDEX, () -> busy(of(4, 4)), t -> t.having(3, 0, true), t -> t.signAt(2), t -> t.other(4, 0),
            t -> t.flip(6), t -> t.height(5, 0), t -> t.role(0, 4), t -> t.rule(3, 5), t -> t.share(0, 3, false));
        refused(NONE, () -> busy(of(4, 4)), t -> t.kindAt(0, 0, 0));
        refused(NONE, () -> laden(of(3, 3)), t -> t.draw(0), Tilecount::next, Tilecount::keep);
        refused(CANT, () -> busy(of(8, 8)), Tilecount::exact, Tilecount::unlike, Tilecount::loops);
        refused(CANT, () -> busy(rolled(4, 4)), Tilecount::bySigns, Tilecount::apart);
        refused(SUM, () -> laden(of(3, 3)), t -> t.share(0, 0, true));
        refused(SUM, () -> laden(bare(3, 3)), Tilecount::meanPart);
    }

    @Says(at = 0, is = "If several exceptions apply, the one that is documented first is thrown.")
    static void theOneDocumentedFirstIsThrown() {
        refused(INDEX, () -> of(2, 2), t -> t.other(2, 0));
        refused(NONE, () -> of(2, 2), t -> t.flip(-1));
        refused(CANT, () -> rolled(4, 2), Tilecount::apart, t -> t.height(-1, 9));
        refused(INDEX, () -> of(2, 2), t -> t.height(3, 0));
        refused(BAD, () -> sixTyped(), t -> t.pieceCell(6, 6));
        refused(BAD, Tilecount::new, t -> t.kind(true, true, 9));
        refused(STATE, () -> sixKindsAnd("#.", ".#", "#."), t -> t.kind(true, true, 1));
        refused(CANT, () -> of(5, 5), t -> t.kindAt(-1, 9, 9));
        refused(NONE, () -> of(2, 2), t -> t.kindAt(-1, 9, 9));
        refused(BAD, Tilecount::new, t -> t.rule(7, 0));
        refused(INDEX, () -> of(3, 3), t -> t.share(2, 0, true));
    }

    private static Tilecount sixTyped() {
        Tilecount t = new Tilecount();
        type(t, "######");
        return t;
    }

    private static Tilecount sixKindsAnd(String... rows) {
        Tilecount t = new Tilecount();
        sixKinds(t);
        type(t, rows);
        return t;
    }

    @Says(at = 0, is = "If several exceptions apply, the one that is documented first is thrown.")
    static void whatIsThrownIsThrownByTheCallItself() {
        Set<String> where = new HashSet<>();
        Call[] calls = {t -> t.board(0, 0), t -> t.cut(9, 9), t -> t.signAt(-1), t -> t.draw(1), t -> t.undo(),
            t -> t.kind(true, true, 1), t -> t.rule(1, 9), t -> t.share(0, 0, true)};
        for (Call call : calls) {
            try {
                call.on(of(1, 3));
                where.add("nothing");
            } catch (RuntimeException e) {
                where.add(e.getStackTrace()[0].getClassName());
            }
        }
        due(where, Set.of("Tilecount"));
    }
}
