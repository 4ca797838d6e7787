/** The boundaries of part 7 and of the promises 41 to 47: rooks, loops, figures. */
final class FigureBoundary extends Checks {

    private static final String ROOKS = "Part 7, rooks stand on cells of the board, no two in one row or in one column, "
        + "whatever is missing between.";
    private static final String LOOP = "A loop goes from neighbour to neighbour, through all cells of the board, four at "
        + "least, once each, and back;";
    private static final String NO_LOOPS = "Throws `UnsupportedOperationException` if the board has more than 36 cells, or "
        + "is rolled";
    private static final String SUM_OF_ALL = "Returns 7 at first, then 31 times itself plus each of: the width, the height, 1 "
        + "if it is rolled, else 0; for each cell, by rows, within them, 1 if the board has it, else 0; with a cover, for "
        + "each cell of the board, by rows, the code of what other() tells; how many kinds there are, and for each how many "
        + "shapes it has, and how many pieces; the codes of the signs of the text; a long that goes round.";
    private static final String SOUND = "Checks the theorem for the board, if it is as told there: covers counted both ways; "
        + "the number of the cover makes it again, and the next one has the number 1 more; each flip leads to a cover 1 "
        + "apart; for each cell the covers with its pieces are all; cells that stay free against their roles; with up to 24 "
        + "cells, the exact covers against their numbers; the rules of the widths 1 to 4 up to the length 30; hexagons and "
        + "boxes up to 3. Nothing is changed by that.";

    private static String rooks(Tilecount t, int rooks) {
        return text(t, t.rooks(rooks));
    }

    private static String loops(Tilecount t) {
        return text(t, t.loops());
    }

    // ---- part 7 ----

    @Says(at = 0, is = ROOKS)
    static void rooksHitOverMissingCells() {
        due(rooks(picture("#.#"), 2), "0");
        due(rooks(picture("#......#"), 2), "0");
        due(rooks(picture("#", ".", "#"), 2), "0");
        due(rooks(picture("#.", ".#"), 2), "1");
        due(rooks(picture("#.", "#."), 2), "0");
        due(picture("#.#").mostRooks(), 1);
        due(picture("#", ".", "#").mostRooks(), 1);
    }

    @Says(at = 0, is = LOOP)
    static void aLoopHasFourCellsAtLeast() {
        due(loops(new Tilecount()), "0");
        due(loops(bare(8, 8)), "0");
        due(loops(of(1, 1)), "0");
        due(loops(of(2, 1)), "0");
        due(loops(of(1, 2)), "0");
        due(loops(of(3, 1)), "0");
        due(loops(of(4, 1)), "0");
        due(loops(of(2, 2)), "1");
    }

    @Says(at = 0, is = LOOP)
    static void aLoopGoesThroughAllCells() {
        due(loops(picture("##.##", "##.##")), "0");
        due(loops(picture("##..", "##..", "..##", "..##")), "0");
        due(loops(picture("##.", "###")), "0");
        due(loops(picture("###.", "#.##", "##.#", ".###")), "1");
        due(loops(form('o', 3)), "1");
        due(loops(picture("###", "#.#", "##.")), "0");
        Tilecount t = form('o', 5);
        t.fill(2, 2);
        due(loops(t), "0");
        due(loops(picture("........", ".##.....", ".##.....")), "1");
    }

    @Says(at = 0, is = "to go round the other way is the same.")
    static void aLoopCountsOnceThoughItGoesBothWays() {
        due(loops(of(2, 2)), "1");
        due(loops(of(2, 3)), "1");
        due(loops(of(3, 4)), "2");
        due(loops(of(4, 4)), "6");
        due(loops(of(6, 6)), "1072");
    }

    // ---- 41 ----

    @Says(at = 41, is = {"Puts in how many ways rooks can stand on the board into the text.",
        "Returns how many signs the text has then."})
    static void rooksOnEmptyAndFullBoards() {
        due(rooks(new Tilecount(), 0), "1");
        due(rooks(new Tilecount(), 1), "0");
        due(rooks(bare(8, 8), 0), "1");
        due(rooks(bare(8, 8), 8), "0");
        due(rooks(of(8, 8), 0), "1");
        due(rooks(of(8, 8), 1), "64");
        due(rooks(of(8, 8), 6), "564480");
        due(rooks(of(8, 8), 8), "40320");
        due(rooks(of(8, 7), 8), "0");
        due(rooks(of(7, 8), 8), "0");
        due(rooks(of(7, 8), 7), "40320");
    }

    @Says(at = 41, is = "Puts in how many ways rooks can stand on the board into the text.")
    static void rooksDoNotMindWhetherTheBoardIsRolled() {
        due(rooks(rolled(4, 2), 2), "12");
        due(rooks(rolled(8, 1), 1), "8");
        due(rooks(rolled(8, 1), 2), "0");
    }

    @Says(at = 41, is = "Puts in how many ways rooks can stand on the board into the text.")
    static void rooksAndLoopsFollowEachChangeOfTheBoard() {
        Tilecount t = of(8, 8);
        due(t.mostRooks(), 8);
        due(rooks(t, 8), "40320");
        due(rooks(t, 8), "40320");
        t.board(4, 4);
        due(loops(t), "6");
        due(loops(t), "6");
        due(t.mostRooks(), 4);
        due(rooks(t, 5), "0");
        t.cut(0, 0);
        due(loops(t), "0");
        due(rooks(t, 4), "18");
        t.board(1, 1);
        t.cut(0, 0);
        due(loops(t), "0");
        due(t.mostRooks(), 0);
        t.board(2, 2);
        due(loops(t), "1");
        due(rooks(t, 1), "4");
        due(t.mostRooks(), 2);
    }

    @Says(at = 41, is = "`rooks`: how many, 0 to 8")
    static void thereAreNoughtToEightRooks() {
        range(BAD, () -> busy(of(4, 4)), 0, 8, Tilecount::rooks);
    }

    @Says(at = 41, is = "Throws `IllegalArgumentException` if the number is out of range")
    static void fewerThanNoRooksAndNineAreRefused() {
        refused(BAD, () -> busy(of(8, 8)), t -> t.rooks(-1), t -> t.rooks(9), t -> t.rooks(32), t -> t.rooks(-32));
        refused(BAD, Tilecount::new, t -> t.rooks(-1), t -> t.rooks(9));
    }

    // ---- 42 ----

    @Says(at = 42, is = "Returns how many rooks can stand on the board at most.")
    static void noRookStandsOnAnEmptyBoardAndEightAtMost() {
        due(new Tilecount().mostRooks(), 0);
        due(bare(8, 8).mostRooks(), 0);
        due(of(1, 1).mostRooks(), 1);
        due(of(8, 8).mostRooks(), 8);
        due(of(8, 1).mostRooks(), 1);
        due(of(1, 8).mostRooks(), 1);
        due(of(3, 8).mostRooks(), 3);
        due(form('o', 8).mostRooks(), 4);
        due(form('s', 8).mostRooks(), 8);
        due(rolled(8, 2).mostRooks(), 2);
    }

    // ---- 43 ----

    @Says(at = 43, is = {"Puts how many loops the board has into the text.", "Returns how many signs the text has then."})
    static void loopsOfThirtySixCells() {
        due(loops(of(6, 6)), "1072");
        due(of(6, 6).loops(), 4);
        due(of(2, 2).loops(), 1);
        due(loops(of(5, 7)), "0");
        due(loops(of(4, 8)), "236");
        due(loops(of(8, 4)), "236");
        due(loops(form('o', 8)), "1");
    }

    @Says(at = 43, is = NO_LOOPS)
    static void loopsAreRefusedFromThirtySevenCells() {
        refused(CANT, () -> busy(of(8, 8)), Tilecount::loops);
        Tilecount t = of(8, 5);
        t.cut(0, 0);
        t.cut(7, 0);
        t.cut(0, 1);
        due(t.cells('a'), 37);
        due(outcome(t, Tilecount::loops), "UnsupportedOperationException");
        due(t.cut(7, 1), 36);
        due(outcome(t, Tilecount::loops) instanceof Integer, true);
        t.fill(7, 1);
        due(outcome(t, Tilecount::loops), "UnsupportedOperationException");
    }

    @Says(at = 43, is = NO_LOOPS)
    static void loopsAreRefusedIfTheBoardIsRolled() {
        refused(CANT, () -> busy(rolled(4, 4)), Tilecount::loops);
        Tilecount t = rolled(4, 4);
        t.roll(false);
        due(loops(t), "6");
        Tilecount empty = bare(4, 1);
        empty.roll(true);
        due(outcome(empty, Tilecount::loops), "UnsupportedOperationException");
    }

    // ---- 44 ----

    @Says(at = 44, is = {"Returns the share of covers that have a piece.",
        "Returns their number divided by that of all covers, both converted to float."})
    static void theShareIsNoughtOrOneOrBetween() {
        due(of(2, 1).share(0, 0, true), 1f);
        due(of(1, 4).share(0, 1, false), 0f);
        due(of(2, 3).share(0, 0, true), 2f / 3f);
        due(of(8, 8).share(0, 0, true), 0.5f);
        due(of(8, 8).share(3, 3, true), ratio(of(8, 8), 3, 3, true));
        due(rolled(8, 8).share(7, 3, true), ratio(rolled(8, 8), 7, 3, true));
        due(rolled(8, 8).share(4, 2, false), ratio(rolled(8, 8), 4, 2, false));
    }

    private static float ratio(Tilecount t, int x, int y, boolean isAcross) {
        float some = (float) Long.parseLong(text(t, t.having(x, y, isAcross)));
        return some / (float) Long.parseLong(text(t, t.covers()));
    }

    @Says(at = 44, is = "`x`: as in having()")
    static void xIsThatOfTheLeftCellOrTheLastOneOfTheRow() {
        range(INDEX, () -> busy(of(4, 2)), 0, 2, (t, n) -> t.share(n, 0, true));
        range(INDEX, () -> busy(rolled(4, 2)), 0, 3, (t, n) -> t.share(n, 0, true));
        due(rolled(4, 2).share(3, 0, true), 3f / 9f);
    }

    @Says(at = 44, is = "`y`: as in having()")
    static void yIsThatOfTheUpperCell() {
        range(INDEX, () -> busy(of(2, 4)), 0, 2, (t, n) -> t.share(0, n, false));
        range(INDEX, () -> busy(of(2, 4)), 0, 3, (t, n) -> t.share(0, n, true));
    }

    @Says(at = 44, is = "`isAcross`: whether the piece lies across")
    static void thePieceLiesAcrossOrDown() {
        due(of(2, 1).share(0, 0, true), 1f);
        due(of(1, 2).share(0, 0, false), 1f);
        refused(INDEX, () -> busy(of(2, 1)), t -> t.share(0, 0, false));
    }

    @Says(at = 44, is = "Throws `IndexOutOfBoundsException` if there is no such piece")
    static void theShareOfNoPieceIsRefusedAheadOfNoCovers() {
        beyond(INDEX, () -> busy(of(4, 3)), 0, 2, (t, n) -> t.share(n, 1, true));
        beyond(INDEX, () -> busy(of(4, 3)), 0, 1, (t, n) -> t.share(1, n, false));
        refused(INDEX, () -> laden(of(3, 3)), t -> t.share(2, 0, true), t -> t.share(0, 2, false));
        refused(INDEX, Tilecount::new, t -> t.share(0, 0, true), t -> t.share(0, 0, false));
    }

    @Says(at = 44, is = "Throws `ArithmeticException` if there are no covers")
    static void aShareOfNoCoversIsRefused() {
        refused(SUM, () -> laden(of(3, 3)), t -> t.share(0, 0, true), t -> t.share(0, 0, false));
        refused(SUM, () -> laden(form('c', 8)), t -> t.share(3, 3, true));
        refused(SUM, () -> laden(of(3, 1)), t -> t.share(0, 0, true));
    }

    // ---- 45 ----

    @Says(at = 45, is = {"Returns the mean number of cells of a part.",
        "Returns the number of cells divided by that of parts, both converted to double."})
    static void partsHaveOneCellOrAllOrAMeanBetween() {
        due(of(1, 1).meanPart(), 1.0);
        due(of(8, 8).meanPart(), 64.0);
        due(picture("#.", ".#").meanPart(), 1.0);
        due(picture("##.#").meanPart(), 1.5);
        due(picture("###.#.#").meanPart(), 5.0 / 3.0);
        due(rolledPicture("##.#").meanPart(), 3.0);
    }

    @Says(at = 45, is = "Throws `ArithmeticException` if there are no cells")
    static void aMeanOfNoCellsIsRefused() {
        refused(SUM, Tilecount::new, Tilecount::meanPart);
        refused(SUM, () -> laden(bare(8, 8)), Tilecount::meanPart);
        Tilecount t = bare(2, 2);
        t.fill(1, 1);
        due(t.meanPart(), 1.0);
        t.cut(1, 1);
        due(outcome(t, Tilecount::meanPart), "ArithmeticException");
    }

    // ---- 46 ----

    @Says(at = 46, is = {"Returns a sum over all.", SUM_OF_ALL})
    static void theSumOfANewObjectAndOfEmptyBoards() {
        due(new Tilecount().checksum(), sumOf(1, 1, 0, 0, 0));
        due(bare(2, 1).checksum(), sumOf(2, 1, 0, 0, 0, 0));
        Tilecount t = new Tilecount();
        t.draw(0);
        due(t.checksum(), sumOf(1, 1, 0, 0, 0));
    }

    @Says(at = 46, is = SUM_OF_ALL)
    static void theSumTellsWhetherTheBoardIsRolled() {
        due(rolled(4, 1).checksum(), sumOf(4, 1, 1, 1, 1, 1, 1, 0));
        Tilecount t = rolled(4, 1);
        t.draw(1);
        due(t.checksum(), sumOf(4, 1, 1, 1, 1, 1, 1, 'w', 'e', 'w', 'e', 0));
        t.roll(false);
        due(t.checksum(), sumOf(4, 1, 0, 1, 1, 1, 1, 0));
    }

    @Says(at = 46, is = SUM_OF_ALL)
    static void theSumTellsKindsButNoTypedCells() {
        Tilecount t = of(1, 1);
        type(t, "###");
        due(t.checksum(), sumOf(1, 1, 0, 1, 0));
        t.kind(true, true, 8);
        due(t.checksum(), sumOf(1, 1, 0, 1, 1, 2, 8));
        kind(t, false, false, 1, "##", "#.");
        due(t.checksum(), sumOf(1, 1, 0, 1, 2, 2, 8, 1, 1));
        t.clear();
        due(t.checksum(), sumOf(1, 1, 0, 1, 0));
    }

    @Says(at = 46, is = SUM_OF_ALL)
    static void theSumTellsTheSignsOfTheTextAndGoesRound() {
        Tilecount t = of(1, 1);
        t.rule(6, 4);
        due(t.checksum(), sumOf(1, 1, 0, 1, 0, '-', '3', '8'));
        Tilecount full = of(8, 8);
        long[] items = new long[68];
        for (int i = 0; i < 68; i++) {
            items[i] = i < 2 ? 8 : i == 2 || i == 67 ? 0 : 1;
        }
        due(full.checksum(), sumOf(items));
        due(java.math.BigInteger.valueOf(31).pow(68).bitLength() > 64, true);
    }

    @Says(at = 46, is = SUM_OF_ALL)
    static void theSumDoesNotTellWhatIsKeptOrCanBeUndone() {
        Tilecount t = of(2, 2);
        t.draw(0);
        long once = t.checksum();
        t.draw(0);
        t.keep();
        due(t.checksum(), once);
        due(once, sumOf(2, 2, 0, 1, 1, 1, 1, 'e', 'w', 'e', 'w', 0));
    }

    // ---- 47 ----

    @Says(at = 47, is = {SOUND, "Returns whether all of this is so."})
    static void allIsSoOnEmptyFullAndRolledBoards() {
        Start[] starts = {Tilecount::new, () -> of(1, 1), () -> of(8, 8), () -> bare(8, 8), () -> rolled(8, 8),
            () -> rolled(4, 1), () -> of(3, 3), () -> form('o', 8), () -> form('c', 8), () -> form('s', 8),
            () -> form('a', 4), () -> picture("#.", ".#"), () -> of(1, 8), () -> of(8, 1)};
        for (Start start : starts) {
            due(start.make().isSound(), true);
            due(laden(start.make()).isSound(), true);
        }
    }

    @Says(at = 47, is = {SOUND, "Returns whether all of this is so."})
    static void allIsSoOfTheFirstAndTheLastCover() {
        Start[] starts = {Tilecount::new, () -> of(2, 1), () -> of(4, 4), () -> of(8, 8), () -> rolled(4, 2),
            () -> rolled(8, 8), () -> form('o', 4), () -> form('a', 4)};
        for (Start start : starts) {
            Tilecount t = start.make();
            t.draw(0);
            due(t.isSound(), true);
            t.draw(-1);
            due(t.isSound(), true);
        }
    }

    @Says(at = 47, is = {SOUND, "Returns whether all of this is so."})
    static void allIsSoOfTwentyFourCellsAndOfTwentyFive() {
        for (Tilecount t : new Tilecount[] {of(6, 4), of(8, 3), of(5, 5), rolled(6, 4), form('a', 3)}) {
            sixKinds(t);
            due(t.isSound(), true);
        }
    }

    @Says(at = 47, is = SOUND)
    static void nothingIsChangedByTheCheck() {
        for (Start start : new Start[] {() -> busy(of(4, 4)), () -> busy(rolled(4, 2)), () -> laden(of(3, 3)),
            () -> busy(form('a', 2)), Tilecount::new}) {
            unchanged(start, Tilecount::isSound);
        }
    }
}
