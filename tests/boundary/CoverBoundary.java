/** The boundaries of the promises 15 to 26: the cover. */
final class CoverBoundary extends Checks {

    private static final String NO_COVER = "Throws `NoSuchElementException` if there is no cover";
    private static final String NO_CELL = "Throws `IndexOutOfBoundsException` if the board has no such cell";
    private static final String PLAIN = "Throws `UnsupportedOperationException` if the board is rolled, or has a hole";
    private static final String DRAW = "Makes the cover whose number is the remainder of a number by how many there are, "
        + "from 0 on, the cover.";
    private static final String UNDO = "Undoes the latest call of draw(), next(), previous() and flip(); at most ten of "
        + "these are kept, the oldest one being forgotten.";
    private static final String CODES = "Returns 'e' to the right, also round, 'w' to the left, also round, 'n' above, 's' "
        + "below.";

    private static String number(Tilecount t) {
        return text(t, t.number());
    }

    private static Tilecount drawn(Tilecount t, long number) {
        t.draw(number);
        return t;
    }

    /** A call that wants a cover is refused on boards that have, or had, none. */
    private static void needsCover(Call call) {
        refused(NONE, () -> laden(of(4, 4)), call);
        refused(NONE, () -> laden(of(3, 3)), call);
        refused(NONE, () -> undone(of(4, 4)), call);
        refused(NONE, () -> cutAgain(of(4, 4)), call);
    }

    private static Tilecount undone(Tilecount t) {
        t.draw(5);
        t.keep();
        t.undo();
        return t;
    }

    private static Tilecount cutAgain(Tilecount t) {
        t.draw(5);
        t.cut(3, 3);
        t.fill(3, 3);
        return t;
    }

    // ---- 15 ----

    @Says(at = 15, is = {DRAW, "`number`: the number"})
    static void theFirstNumberBehindTheLastIsTheFirstAgain() {
        due(number(drawn(of(4, 4), 0)), "0");
        due(number(drawn(of(4, 4), 35)), "35");
        due(number(drawn(of(4, 4), 36)), "0");
        due(number(drawn(of(4, 4), 71)), "35");
        due(number(drawn(of(8, 8), 12988815)), "12988815");
        due(number(drawn(of(8, 8), 12988816)), "0");
    }

    @Says(at = 15, is = {DRAW, "`number`: the number"})
    static void numbersBelowNoughtCountFromTheEnd() {
        due(number(drawn(of(4, 4), -1)), "35");
        due(number(drawn(of(4, 4), -36)), "0");
        due(number(drawn(of(4, 4), -37)), "35");
    }

    @Says(at = 15, is = {DRAW, "`number`: the number"})
    static void theFarthestNumbersHaveARemainder() {
        due(number(drawn(of(4, 4), Long.MAX_VALUE)), String.valueOf(Long.MAX_VALUE % 36));
        due(number(drawn(of(4, 4), Long.MIN_VALUE)), String.valueOf(Math.floorMod(Long.MIN_VALUE, 36L)));
        due(number(drawn(of(2, 1), Long.MIN_VALUE)), "0");
        due(number(drawn(of(4, 4), (1L << 32) + 1)), String.valueOf(((1L << 32) + 1) % 36));
    }

    @Says(at = 15, is = "Returns how many pieces it has.")
    static void aCoverHasNoneToThirtyTwoPieces() {
        due(new Tilecount().draw(0), 0);
        due(of(2, 1).draw(0), 1);
        due(of(8, 8).draw(0), 32);
        due(rolled(8, 8).draw(-1), 32);
    }

    @Says(at = 15, is = "Throws `NoSuchElementException` if the board has no cover")
    static void aBoardWithoutACoverCantBeDrawn() {
        refused(NONE, () -> laden(of(3, 3)), t -> t.draw(0), t -> t.draw(-1), t -> t.draw(Long.MIN_VALUE),
            t -> t.draw(Long.MAX_VALUE));
        refused(NONE, () -> laden(of(1, 1)), t -> t.draw(0));
        refused(NONE, () -> laden(form('c', 8)), t -> t.draw(0));
        refused(NONE, () -> laden(picture("#.", ".#")), t -> t.draw(1));
    }

    // ---- 16 ----

    @Says(at = 16, is = "Returns false if it was the last one.")
    static void nextIsFalseOfTheLastCoverAlone() {
        for (int i = 0; i < 9; i++) {
            due(drawn(rolled(4, 2), i).next(), i < 8);
        }
    }

    @Says(at = 16, is = "Goes on to the next cover, from the last one to the first one.")
    static void theFirstCoverFollowsTheLast() {
        Tilecount t = drawn(of(4, 4), 34);
        due(t.next(), true);
        due(number(t), "35");
        due(t.next(), false);
        due(number(t), "0");
        due(t.next(), true);
        due(number(t), "1");
        Tilecount round = drawn(rolled(4, 2), 8);
        due(round.next(), false);
        due(number(round), "0");
    }

    @Says(at = 16, is = "Goes on to the next cover, from the last one to the first one.")
    static void anOnlyCoverFollowsItself() {
        Tilecount t = drawn(of(2, 1), 0);
        due(t.next(), false);
        due(codes(t, 2, 1), "ew");
        due(t.undo(), 1);
        Tilecount empty = drawn(new Tilecount(), 0);
        due(empty.next(), false);
        due(number(empty), "0");
        due(empty.undo(), 1);
    }

    @Says(at = 16, is = NO_COVER)
    static void nextNeedsACover() {
        needsCover(Tilecount::next);
    }

    // ---- 17 ----

    @Says(at = 17, is = "Returns false if it was the first one.")
    static void previousIsFalseOfTheFirstCoverAlone() {
        for (int i = 0; i < 9; i++) {
            due(drawn(rolled(4, 2), i).previous(), i > 0);
        }
    }

    @Says(at = 17, is = "Goes back to the cover ahead, from the first one to the last one.")
    static void theLastCoverIsAheadOfTheFirst() {
        Tilecount t = drawn(of(4, 4), 1);
        due(t.previous(), true);
        due(number(t), "0");
        due(t.previous(), false);
        due(number(t), "35");
        due(t.previous(), true);
        due(number(t), "34");
        Tilecount round = drawn(rolled(4, 2), 0);
        due(round.previous(), false);
        due(number(round), "8");
    }

    @Says(at = 17, is = "Goes back to the cover ahead, from the first one to the last one.")
    static void anOnlyCoverIsAheadOfItself() {
        Tilecount t = drawn(of(1, 2), 0);
        due(t.previous(), false);
        due(codes(t, 1, 2), "sn");
        due(t.undo(), 1);
        due(drawn(new Tilecount(), 0).previous(), false);
    }

    @Says(at = 17, is = NO_COVER)
    static void previousNeedsACover() {
        needsCover(Tilecount::previous);
    }

    // ---- 18 ----

    @Says(at = 18, is = "Puts the number of the cover into the text.")
    static void theNumbersOfTheFirstAndTheLastCover() {
        due(number(drawn(new Tilecount(), 7)), "0");
        due(number(drawn(of(8, 8), 0)), "0");
        due(number(drawn(of(8, 8), -1)), "12988815");
        Tilecount t = rolled(8, 8);
        String all = text(t, t.covers());
        due(number(drawn(t, -1)), String.valueOf(Long.parseLong(all) - 1));
        Tilecount flipped = drawn(of(2, 2), 0);
        flipped.flip(0);
        due(number(flipped), "1");
    }

    @Says(at = 18, is = "Returns how many signs the text has then.")
    static void theSignsOfANumberAreCounted() {
        due(drawn(of(4, 4), 9).number(), 1);
        due(drawn(of(4, 4), 10).number(), 2);
        due(drawn(of(8, 8), 12988815).number(), 8);
    }

    @Says(at = 18, is = NO_COVER)
    static void numberNeedsACover() {
        needsCover(Tilecount::number);
    }

    // ---- 19 ----

    @Says(at = 19, is = {"Tells where the other cell of the piece of a cell is.", CODES})
    static void theOtherCellIsOnAllFourSides() {
        due(codes(drawn(of(2, 1), 0), 2, 1), "ew");
        due(codes(drawn(of(1, 2), 0), 1, 2), "sn");
        due(codes(drawn(of(8, 8), 0), 8, 8), "ewewewew".repeat(8));
    }

    @Says(at = 19, is = {"Tells where the other cell of the piece of a cell is.", CODES})
    static void theOtherCellIsRoundARolledBoard() {
        for (int w = 4; w <= 8; w += 2) {
            Tilecount t = drawn(rolled(w, 1), 1);
            due(codes(t, w, 1), "wewewewe".substring(0, w));
            due(t.other(0, 0), 'w');
            due(t.other(w - 1, 0), 'e');
        }
    }

    @Says(at = 19, is = "`x`: its x")
    static void aCellHasAnXFromNoughtToOneLess() {
        range(INDEX, () -> busy(of(4, 2)), 0, 3, (t, n) -> t.other(n, 1));
    }

    @Says(at = 19, is = "`y`: its y")
    static void aCellHasAYFromNoughtToOneLess() {
        range(INDEX, () -> busy(of(4, 2)), 0, 1, (t, n) -> t.other(3, n));
    }

    @Says(at = 19, is = NO_CELL)
    static void anotherCellThanThoseOfTheBoardIsRefused() {
        refused(INDEX, () -> busy(form('a', 2)), t -> t.other(0, 0), t -> t.other(3, 3));
        refused(INDEX, () -> busy(rolled(4, 2)), t -> t.other(4, 0), t -> t.other(-1, 0));
        refused(INDEX, Tilecount::new, t -> t.other(0, 0));
    }

    @Says(at = 19, is = NO_COVER)
    static void otherNeedsACoverButFirstACell() {
        needsCover(t -> t.other(0, 0));
        refused(INDEX, () -> of(4, 4), t -> t.other(4, 0), t -> t.other(0, -1));
    }

    // ---- 20 ----

    @Says(at = 20, is = "Returns how many flips the cover has.")
    static void aCoverHasNoFlipsOrMany() {
        due(drawn(new Tilecount(), 0).flips(), 0);
        due(drawn(of(2, 1), 0).flips(), 0);
        due(drawn(of(8, 1), 0).flips(), 0);
        due(drawn(of(1, 8), 0).flips(), 0);
        due(drawn(form('o', 3), 0).flips(), 0);
        due(drawn(of(2, 2), 0).flips(), 1);
        due(drawn(of(8, 8), 0).flips(), 28);
        due(drawn(of(8, 8), -1).flips(), 28);
        due(drawn(rolled(8, 8), 0).flips(), 28);
        due(drawn(rolled(8, 8), -1).flips(), 27);
        due(drawAs(() -> rolled(4, 2), 4, 2, "ssssnnnn").flips(), 4);
        due(drawAs(() -> of(4, 2), 4, 2, "ssssnnnn").flips(), 3);
    }

    @Says(at = 20, is = NO_COVER)
    static void flipsNeedsACover() {
        needsCover(Tilecount::flips);
    }

    // ---- 21 ----

    @Says(at = 21, is = {"Flips two pieces.", "Returns how many flips the cover has then."})
    static void aFlipTellsHowManyThereAreThen() {
        Tilecount t = drawn(of(2, 3), 0);
        due(t.flips(), 2);
        due(t.flip(0), 1);
        due(t.flip(0), 2);
        due(t.flip(1), 1);
    }

    @Says(at = 21, is = "`index`: the number of the flip")
    static void flipsGoFromNoughtToOneLess() {
        range(INDEX, () -> busy4(), 0, 5, Tilecount::flip);
    }

    private static Tilecount busy4() {
        Tilecount t = laden(of(4, 4));
        t.draw(3);
        t.keep();
        t.draw(0);
        return t;
    }

    @Says(at = 21, is = "`index`: the number of the flip")
    static void theLastFlipStandsAtTheEndOfARowIfItIsRolled() {
        Tilecount t = drawAs(() -> rolled(4, 2), 4, 2, "ssssnnnn");
        due(t.flip(3), 2);
        due(codes(t, 4, 2), "wsse" + "wnne");
        Tilecount first = drawAs(() -> rolled(4, 2), 4, 2, "ssssnnnn");
        first.flip(0);
        due(codes(first, 4, 2), "ewss" + "ewnn");
    }

    @Says(at = 21, is = NO_COVER)
    static void flipNeedsACoverAheadOfAnIndex() {
        needsCover(t -> t.flip(0));
        needsCover(t -> t.flip(-1));
        needsCover(t -> t.flip(99));
    }

    @Says(at = 21, is = "Throws `IndexOutOfBoundsException` if there is no such flip")
    static void aFlipThatIsNotThereIsRefused() {
        refused(INDEX, () -> busy4(), t -> t.flip(6), t -> t.flip(-1), t -> t.flip(Integer.MAX_VALUE),
            t -> t.flip(Integer.MIN_VALUE));
        refused(INDEX, () -> drawn(of(8, 1), 0), t -> t.flip(0));
        refused(INDEX, () -> drawn(new Tilecount(), 0), t -> t.flip(0));
    }

    // ---- 22 ----

    @Says(at = 22, is = UNDO)
    static void eachOfTheFourCallsIsUndone() {
        Tilecount t = of(4, 4);
        t.draw(7);
        t.draw(20);
        due(t.undo(), 1);
        due(number(t), "7");
        t.next();
        due(t.undo(), 1);
        due(number(t), "7");
        t.previous();
        due(t.undo(), 1);
        due(number(t), "7");
        t.flip(0);
        due(t.undo(), 1);
        due(number(t), "7");
        due(t.undo(), 0);
        due(outcome(t, Tilecount::number), "NoSuchElementException");
    }

    @Says(at = 22, is = UNDO)
    static void tenAreKeptAndTheOldestIsForgotten() {
        Tilecount ten = of(4, 4);
        for (int i = 0; i < 10; i++) {
            ten.draw(i);
        }
        for (int i = 9; i >= 1; i--) {
            due(ten.undo(), i);
            due(number(ten), String.valueOf(i - 1));
        }
        due(ten.undo(), 0);
        due(outcome(ten, Tilecount::number), "NoSuchElementException");
        Tilecount eleven = of(4, 4);
        for (int i = 0; i < 11; i++) {
            eleven.draw(i);
        }
        for (int i = 9; i >= 0; i--) {
            due(eleven.undo(), i);
            due(number(eleven), String.valueOf(i));
        }
        due(outcome(eleven, Tilecount::undo), "IllegalStateException");
        due(number(eleven), "0");
    }

    @Says(at = 22, is = UNDO)
    static void tenAreKeptOfManyAndAgainAfterAnUndo() {
        Tilecount t = of(4, 4);
        for (int i = 0; i < 30; i++) {
            t.draw(i);
        }
        due(t.undo(), 9);
        due(number(t), "28");
        t.draw(33);
        t.draw(34);
        for (int i = 9; i >= 0; i--) {
            due(t.undo(), i);
        }
        due(number(t), "20");
        due(outcome(t, Tilecount::undo), "IllegalStateException");
    }

    @Says(at = 22, is = UNDO)
    static void aStepThatLeadsToTheSameCoverIsUndoneToo() {
        Tilecount t = of(2, 1);
        t.draw(0);
        t.draw(0);
        t.next();
        t.previous();
        due(t.undo(), 3);
        due(t.undo(), 2);
        due(t.undo(), 1);
        due(t.undo(), 0);
        due(outcome(t, Tilecount::flips), "NoSuchElementException");
    }

    @Says(at = 22, is = UNDO)
    static void aRefusedStepIsNotKept() {
        Tilecount t = of(2, 2);
        t.draw(0);
        due(outcome(t, u -> u.flip(1)), "IndexOutOfBoundsException");
        due(outcome(t, u -> u.board(0, 0)), "IllegalArgumentException");
        due(t.undo(), 0);
    }

    @Says(at = 22, is = "Returns how many can be undone then.")
    static void thereAreNineToNoneLeftToUndo() {
        Tilecount t = of(4, 4);
        for (int i = 0; i < 10; i++) {
            t.draw(i);
        }
        for (int left = 9; left >= 0; left--) {
            due(t.undo(), left);
        }
        t.draw(0);
        due(t.undo(), 0);
    }

    @Says(at = 22, is = UNDO)
    static void theKeptCoverAndTheTextAreNotUndone() {
        Tilecount t = of(4, 4);
        t.draw(0);
        t.draw(1);
        t.keep();
        t.covers();
        due(t.undo(), 1);
        due(text(t), "36");
        due(t.apart(), 1);
        due(t.undo(), 0);
        due(outcome(t, Tilecount::apart), "NoSuchElementException");
        t.draw(1);
        due(t.apart(), 0);
    }

    @Says(at = 22, is = "Throws `IllegalStateException` if none is kept")
    static void nothingIsUndoneWhereNothingWasDone() {
        refused(STATE, Tilecount::new, Tilecount::undo);
        refused(STATE, () -> laden(of(4, 4)), Tilecount::undo);
        refused(STATE, () -> undone(of(4, 4)), Tilecount::undo);
        refused(STATE, () -> cutAgain(of(4, 4)), Tilecount::undo);
    }

    // ---- 23 ----

    @Says(at = 23, is = "Keeps the cover, in place of one that was kept.")
    static void theLatestKeptCoverStandsInPlaceOfTheOthers() {
        Tilecount t = drawn(of(2, 3), 0);
        t.keep();
        t.draw(2);
        due(t.apart(), 1);
        t.keep();
        due(t.apart(), 0);
        t.draw(1);
        due(t.apart(), 2);
        t.keep();
        t.keep();
        due(t.apart(), 0);
    }

    @Says(at = 23, is = "Returns how many cuts it has.")
    static void keepTellsTheCuts() {
        due(drawn(new Tilecount(), 0).keep(), 0);
        due(drawn(of(2, 3), 0).keep(), 2);
        due(drawn(of(2, 3), 1).keep(), 1);
        due(drawn(of(8, 8), 0).keep(), 10);
        Tilecount t = bare(8, 8);
        t.roll(true);
        due(drawn(t, 0).keep(), 15);
    }

    @Says(at = 23, is = NO_COVER)
    static void keepNeedsACover() {
        needsCover(Tilecount::keep);
    }

    // ---- 24 ----

    @Says(at = 24, is = "Returns the fewest flips from the kept cover to the cover.")
    static void aCoverIsNoneApartFromItself() {
        Tilecount empty = drawn(new Tilecount(), 0);
        empty.keep();
        due(empty.apart(), 0);
        Tilecount t = drawn(of(8, 8), 4711);
        t.keep();
        due(t.apart(), 0);
        t.next();
        t.previous();
        due(t.apart(), 0);
    }

    @Says(at = 24, is = "Returns the fewest flips from the kept cover to the cover.")
    static void theFarthestCoversOfTheGreatestForm() {
        Tilecount t = drawn(form('a', 4), 0);
        t.keep();
        t.draw(-1);
        due(t.apart(), 30);
        t.keep();
        t.draw(0);
        due(t.apart(), 30);
        t.flip(0);
        due(t.apart(), 29);
    }

    @Says(at = 24, is = "Returns the fewest flips from the kept cover to the cover.")
    static void flipsInPartsAreAddedUp() {
        Tilecount t = drawn(picture("##.##", "##.##"), 0);
        t.keep();
        t.draw(-1);
        due(t.apart(), 2);
        Tilecount corner = drawn(picture("##..", "##..", "..##", "..##"), 0);
        corner.keep();
        corner.draw(-1);
        due(corner.apart(), 2);
    }

    @Says(at = 24, is = PLAIN)
    static void apartIsRefusedIfTheBoardIsRolledOrHasAHole() {
        refused(CANT, () -> busy(rolled(4, 4)), Tilecount::apart);
        refused(CANT, () -> busy(form('o', 4)), Tilecount::apart);
        refused(CANT, () -> laden(rolled(4, 4)), Tilecount::apart);
        refused(CANT, () -> laden(form('o', 3)), Tilecount::apart);
    }

    @Says(at = 24, is = "Throws `NoSuchElementException` if there is no cover, or none is kept")
    static void apartIsRefusedWithoutACover() {
        needsCover(Tilecount::apart);
    }

    @Says(at = 24, is = "Throws `NoSuchElementException` if there is no cover, or none is kept")
    static void apartIsRefusedWithoutAKeptCover() {
        refused(NONE, () -> drawn(laden(of(4, 4)), 3), Tilecount::apart);
        refused(NONE, () -> drawn(cutAgain(of(4, 4)), 3), Tilecount::apart);
    }

    // ---- 25 ----

    @Says(at = 25, is = "`x`: its x")
    static void aCornerHasAnXFromNoughtToTheWidth() {
        range(INDEX, () -> busy(of(4, 2)), 0, 4, (t, n) -> t.height(n, 2));
    }

    @Says(at = 25, is = "`y`: its y")
    static void aCornerHasAYFromNoughtToTheHeight() {
        range(INDEX, () -> busy(of(4, 2)), 0, 2, (t, n) -> t.height(4, n));
    }

    @Says(at = 25, is = {"Returns the height of a corner.", "Returns the height."})
    static void theCornersOfAWholeBoard() {
        int[] due = {0, -1, 0, 1, 2, 1, 0, -1, 0};
        Tilecount t = drawn(of(2, 2), 0);
        for (int i = 0; i < 9; i++) {
            due(t.height(i % 3, i / 3), due[i]);
        }
        Tilecount full = drawn(of(8, 8), 0);
        due(full.height(8, 8), 0);
        due(full.height(8, 7), 1);
        due(full.height(7, 8), -1);
    }

    @Says(at = 25, is = PLAIN)
    static void heightIsRefusedIfTheBoardIsRolledOrHasAHole() {
        refused(CANT, () -> busy(rolled(4, 4)), t -> t.height(0, 0), t -> t.height(-1, 0), t -> t.height(9, 9));
        refused(CANT, () -> busy(form('o', 4)), t -> t.height(0, 0), t -> t.height(-1, 0));
        refused(CANT, () -> laden(rolled(4, 4)), t -> t.height(0, 0));
    }

    @Says(at = 25, is = "Throws `IndexOutOfBoundsException` if it is no corner of a cell of the board")
    static void aCornerBesideTheBoardIsRefused() {
        beyond(INDEX, () -> busy(of(4, 2)), 0, 4, (t, n) -> t.height(n, 1));
        beyond(INDEX, () -> busy(of(4, 2)), 0, 2, (t, n) -> t.height(1, n));
        beyond(INDEX, () -> busy(of(8, 2)), 0, 8, (t, n) -> t.height(n, 2));
        beyond(INDEX, () -> busy(of(2, 8)), 0, 8, (t, n) -> t.height(2, n));
    }

    @Says(at = 25, is = "Throws `IndexOutOfBoundsException` if it is no corner of a cell of the board")
    static void aCornerOfMissingCellsAloneIsRefused() {
        refused(INDEX, () -> busy(form('a', 2)), t -> t.height(0, 0), t -> t.height(4, 4), t -> t.height(4, 0),
            t -> t.height(0, 4));
        refused(INDEX, () -> drawn(new Tilecount(), 0), t -> t.height(0, 0), t -> t.height(1, 1));
        refused(INDEX, () -> drawn(picture("...", "...", ".##"), 0), t -> t.height(0, 3), t -> t.height(1, 1));
        Tilecount t = drawn(picture("...", "...", ".##"), 0);
        due(t.height(1, 2), 0);
        due(t.height(2, 2), 1);
        due(t.height(3, 3), -1);
    }

    @Says(at = 25, is = NO_COVER)
    static void heightNeedsACoverButFirstACorner() {
        needsCover(t -> t.height(0, 0));
        refused(INDEX, () -> of(4, 4), t -> t.height(5, 0), t -> t.height(0, -1));
    }

    // ---- 26 ----

    @Says(at = 26, is = "Returns how many cuts the cover has.")
    static void aCoverHasNoCutsOrMany() {
        due(drawn(new Tilecount(), 0).cuts(), 0);
        due(drawn(of(2, 1), 0).cuts(), 0);
        due(drawn(of(8, 8), 0).cuts(), 10);
        due(drawn(rolled(8, 8), 0).cuts(), 11);
        due(drawn(bare(8, 8), 0).cuts(), 14);
        due(drawAs(() -> of(3, 2), 3, 2, "sewnew").cuts(), 1);
    }

    @Says(at = 26, is = NO_COVER)
    static void cutsNeedsACover() {
        needsCover(Tilecount::cuts);
    }
}
