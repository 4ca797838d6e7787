/** The boundaries of the promises 1 to 10: boards. */
final class BoardBoundary extends Checks {

    private static final String FORMS = "`kind`: 'a' of 2 n and 2 n all cells but, in the first n rows, n less 1 less y at "
        + "each end, and the lower rows likewise; 's' of n and n the cells with x up to y; 'o' of n and n those of its rim; "
        + "'c' of n and n all but the first and the last one";
    private static final String NO_FORM = "Throws `IllegalArgumentException` if there is no such form, or the number is out "
        + "of range";
    private static final String NOT_MISSING = "Throws `IndexOutOfBoundsException` if it is not within the width and height, "
        + "or not missing";

    // ---- 1 ----

    @Says(at = 1, is = "Creates an empty board, without a cover and kinds of pieces.")
    static void aNewObjectHasNoCells() {
        Tilecount t = new Tilecount();
        due(t.cells('a'), 0);
        due(t.parts(), 0);
        due(t.holes(), 0);
        due(t.free(), 0);
        due(t.mostRooks(), 0);
        due(t.roll(false), false);
    }

    @Says(at = 1, is = "Creates an empty board, without a cover and kinds of pieces.")
    static void aNewObjectHasNoCover() {
        Tilecount t = new Tilecount();
        due(outcome(t, Tilecount::number), "NoSuchElementException");
        due(outcome(t, Tilecount::undo), "IllegalStateException");
        due(t.draw(0), 0);
        due(outcome(t, Tilecount::apart), "NoSuchElementException");
        due(t.undo(), 0);
    }

    @Says(at = 1, is = "Creates an empty board, without a cover and kinds of pieces.")
    static void aNewObjectHasNoKindsAndNothingTyped() {
        due(new Tilecount().clear(), 0);
        refused(STATE, Tilecount::new, t -> t.kind(true, true, 1));
        due(new Tilecount().pieceCell(5, 5), 1);
        Tilecount t = new Tilecount();
        t.fill(0, 0);
        due(t.exact(), 0);
    }

    // ---- 2 ----

    @Says(at = 2, is = "Tells a board with all cells, not rolled.")
    static void aBoardIsWholeAndFlatWhateverWasThere() {
        Tilecount t = bare(4, 4);
        t.roll(true);
        due(t.board(4, 4), 16);
        due(t.cells('a'), 16);
        due(t.roll(false), false);
    }

    @Says(at = 2, is = "Tells a board with all cells, not rolled.")
    static void aBoardKeepsKindsTypedCellsAndText() {
        Tilecount t = laden(of(4, 4));
        due(t.board(3, 1), 3);
        due(text(t), "-1");
        due(t.exact(), 1);
        due(t.pieceCell(0, 0), 2);
        due(t.clear(), 2);
    }

    @Says(at = 2, is = "`width`: 1 to 8")
    static void aWidthIsOneToEight() {
        range(BAD, () -> busy(of(4, 4)), 1, 8, (t, n) -> t.board(n, 3));
    }

    @Says(at = 2, is = "`height`: 1 to 8")
    static void aHeightIsOneToEight() {
        range(BAD, () -> busy(of(4, 4)), 1, 8, (t, n) -> t.board(3, n));
    }

    @Says(at = 2, is = "Returns how many cells it has.")
    static void aBoardHasOneToSixtyFourCells() {
        Tilecount t = new Tilecount();
        for (int i = 0; i < 64; i++) {
            due(t.board(i % 8 + 1, i / 8 + 1), (i % 8 + 1) * (i / 8 + 1));
        }
    }

    @Says(at = 2, is = "Throws `IllegalArgumentException` if a number is out of range")
    static void aBoardThatCantBeIsRefused() {
        refused(BAD, () -> busy(of(4, 4)), t -> t.board(0, 0), t -> t.board(9, 9), t -> t.board(0, 8), t -> t.board(8, 0),
            t -> t.board(9, 1), t -> t.board(1, 9), t -> t.board(-1, 4), t -> t.board(4, -1));
        refused(BAD, () -> busy(rolled(4, 4)), t -> t.board(9, 4));
    }

    // ---- 3 ----

    @Says(at = 3, is = "Tells a board of a form, not rolled.")
    static void aFormIsFlatWhateverWasThere() {
        for (char kind : "asoc".toCharArray()) {
            Tilecount t = rolled(8, 8);
            t.form(kind, 4);
            due(t.roll(false), false);
        }
    }

    private static String rows(Tilecount t, int w, int h) {
        StringBuilder rows = new StringBuilder();
        for (int y = 0; y < h; y++) {
            for (int x = 0; x < w; x++) {
                rows.append(t.has(x, y) ? '#' : '.');
            }
            rows.append('/');
        }
        due(outcome(t, u -> u.fill(w, 0)), "IndexOutOfBoundsException");
        due(outcome(t, u -> u.fill(0, h)), "IndexOutOfBoundsException");
        return rows.toString();
    }

    @Says(at = 3, is = FORMS)
    static void theFormAOfItsLeastAndGreatestNumber() {
        due(rows(form('a', 1), 2, 2), "##/##/");
        due(rows(form('a', 2), 4, 4), ".##./####/####/.##./");
        due(rows(form('a', 4), 8, 8), "...##.../..####../.######./########/########/.######./..####../...##.../");
    }

    @Says(at = 3, is = FORMS)
    static void theFormSOfItsLeastAndGreatestNumber() {
        due(rows(form('s', 1), 1, 1), "#/");
        due(rows(form('s', 2), 2, 2), "#./##/");
        due(rows(form('s', 8), 8, 8),
            "#......./##....../###...../####..../#####.../######../#######./########/");
    }

    @Says(at = 3, is = FORMS)
    static void theFormOOfItsLeastAndGreatestNumber() {
        due(rows(form('o', 3), 3, 3), "###/#.#/###/");
        due(rows(form('o', 8), 8, 8),
            "########/#......#/#......#/#......#/#......#/#......#/#......#/########/");
    }

    @Says(at = 3, is = FORMS)
    static void theFormCOfItsLeastAndGreatestNumber() {
        due(rows(form('c', 2), 2, 2), ".#/#./");
        due(rows(form('c', 8), 8, 8),
            ".#######/########/########/########/########/########/########/#######./");
    }

    @Says(at = 3, is = "`n`: its number, 1 to 4, 1 to 8, 3 to 8, 2 to 8")
    static void theNumberOfAIsOneToFour() {
        range(BAD, () -> busy(of(4, 4)), 1, 4, (t, n) -> t.form('a', n));
    }

    @Says(at = 3, is = "`n`: its number, 1 to 4, 1 to 8, 3 to 8, 2 to 8")
    static void theNumberOfSIsOneToEight() {
        range(BAD, () -> busy(of(4, 4)), 1, 8, (t, n) -> t.form('s', n));
    }

    @Says(at = 3, is = "`n`: its number, 1 to 4, 1 to 8, 3 to 8, 2 to 8")
    static void theNumberOfOIsThreeToEight() {
        range(BAD, () -> busy(of(4, 4)), 3, 8, (t, n) -> t.form('o', n));
    }

    @Says(at = 3, is = "`n`: its number, 1 to 4, 1 to 8, 3 to 8, 2 to 8")
    static void theNumberOfCIsTwoToEight() {
        range(BAD, () -> busy(of(4, 4)), 2, 8, (t, n) -> t.form('c', n));
    }

    @Says(at = 3, is = "Returns how many cells it has.")
    static void theCellsOfAFormAreCounted() {
        Tilecount t = new Tilecount();
        for (int n = 1; n <= 8; n++) {
            due(t.form('s', n), n * (n + 1) / 2);
            due(n < 2 ? 1 : t.form('c', n), n < 2 ? 1 : n * n - 2);
            due(n < 3 ? 1 : t.form('o', n), n < 3 ? 1 : 4 * (n - 1));
            due(n > 4 ? 1 : t.form('a', n), n > 4 ? 1 : 2 * n * (n + 1));
        }
    }

    @Says(at = 3, is = NO_FORM)
    static void aFormOfAnotherSignIsRefused() {
        for (int sign = 0; sign < 128; sign++) {
            char kind = (char) sign;
            if ("asoc".indexOf(kind) < 0) {
                due(outcome(new Tilecount(), t -> t.form(kind, 3)), "IllegalArgumentException");
            }
        }
        refused(BAD, () -> busy(rolled(4, 4)), t -> t.form('A', 2), t -> t.form((char) 0, 1), t -> t.form('b', 4),
            t -> t.form((char) 65535, 3), t -> t.form((char) ('a' + 256), 3));
    }

    @Says(at = 3, is = NO_FORM)
    static void aFormOfANumberThatCantBeIsRefused() {
        refused(BAD, () -> busy(rolled(4, 4)), t -> t.form('a', 0), t -> t.form('a', 5), t -> t.form('s', 0),
            t -> t.form('s', 9), t -> t.form('o', 2), t -> t.form('o', 9), t -> t.form('c', 1), t -> t.form('c', 9));
    }

    // ---- 4 ----

    @Says(at = 4, is = "`x`: its x")
    static void aCellTakenAwayHasAnXFromNoughtToOneLess() {
        range(INDEX, () -> busy(of(4, 2)), 0, 3, (t, n) -> t.cut(n, 1));
    }

    @Says(at = 4, is = "`y`: its y")
    static void aCellTakenAwayHasAYFromNoughtToOneLess() {
        range(INDEX, () -> busy(of(4, 2)), 0, 1, (t, n) -> t.cut(3, n));
    }

    @Says(at = 4, is = "Takes a cell away.")
    static void theCellsAtTheRimCanBeTakenAway() {
        int[][] rim = {{0, 0}, {7, 0}, {0, 7}, {7, 7}};
        for (int[] cell : rim) {
            Tilecount t = of(8, 8);
            due(t.cut(cell[0], cell[1]), 63);
            due(t.has(cell[0], cell[1]), false);
            due(t.fill(cell[0], cell[1]), 64);
        }
    }

    @Says(at = 4, is = "Returns how many cells are left.")
    static void theLastCellCanBeTakenAway() {
        Tilecount t = of(8, 8);
        for (int left = 63; left >= 0; left--) {
            due(t.cut(left % 8, left / 8), left);
        }
        due(t.parts(), 0);
    }

    @Says(at = 4, is = "Throws `IndexOutOfBoundsException` if the board has no such cell")
    static void aCellThatIsMissingCantBeTakenAway() {
        refused(INDEX, () -> busy(form('a', 2)), t -> t.cut(0, 0), t -> t.cut(3, 3), t -> t.cut(3, 0));
        refused(INDEX, Tilecount::new, t -> t.cut(0, 0));
    }

    @Says(at = 4, is = "Throws `IndexOutOfBoundsException` if the board has no such cell")
    static void aCellBesideTheBoardCantBeTakenAway() {
        beyond(INDEX, () -> busy(of(8, 4)), 0, 7, (t, n) -> t.cut(n, 1));
        beyond(INDEX, () -> busy(of(4, 8)), 0, 7, (t, n) -> t.cut(1, n));
        beyond(INDEX, () -> busy(of(3, 4)), 0, 2, (t, n) -> t.cut(n, 1));
    }

    @Says(at = 4, is = "Throws `IndexOutOfBoundsException` if the board has no such cell")
    static void noCellIsTakenAwayRoundARolledBoard() {
        refused(INDEX, () -> busy(rolled(4, 4)), t -> t.cut(4, 0), t -> t.cut(-1, 0), t -> t.cut(0, -1), t -> t.cut(0, 4));
    }

    // ---- 5 ----

    @Says(at = 5, is = "`x`: its x")
    static void aCellThatIsPutHasAnXFromNoughtToOneLess() {
        range(INDEX, () -> laden(bare(4, 2)), 0, 3, (t, n) -> t.fill(n, 1));
    }

    @Says(at = 5, is = "`y`: its y")
    static void aCellThatIsPutHasAYFromNoughtToOneLess() {
        range(INDEX, () -> laden(bare(4, 2)), 0, 1, (t, n) -> t.fill(3, n));
    }

    @Says(at = 5, is = "Puts a missing cell there.")
    static void theCellsAtTheRimCanBePut() {
        int[][] rim = {{0, 0}, {7, 0}, {0, 7}, {7, 7}};
        for (int[] cell : rim) {
            Tilecount t = bare(8, 8);
            due(t.fill(cell[0], cell[1]), 1);
            due(t.has(cell[0], cell[1]), true);
            due(t.cut(cell[0], cell[1]), 0);
        }
    }

    @Says(at = 5, is = "Returns how many cells there are then.")
    static void aBoardCanBeFilledFromNoughtToAll() {
        Tilecount t = bare(8, 8);
        for (int i = 0; i < 64; i++) {
            due(t.fill(i % 8, i / 8), i + 1);
        }
        due(text(t, t.covers()), "12988816");
    }

    @Says(at = 5, is = NOT_MISSING)
    static void aCellThatIsThereCantBePut() {
        refused(INDEX, () -> busy(of(4, 4)), t -> t.fill(0, 0), t -> t.fill(3, 3));
    }

    @Says(at = 5, is = NOT_MISSING)
    static void aCellBesideTheBoardCantBePut() {
        beyond(INDEX, () -> laden(bare(8, 4)), 0, 7, (t, n) -> t.fill(n, 1));
        beyond(INDEX, () -> laden(bare(4, 8)), 0, 7, (t, n) -> t.fill(1, n));
        beyond(INDEX, () -> laden(bare(3, 2)), 0, 2, (t, n) -> t.fill(n, 1));
        beyond(INDEX, () -> laden(bare(3, 2)), 0, 1, (t, n) -> t.fill(1, n));
    }

    @Says(at = 5, is = NOT_MISSING)
    static void noCellIsPutRoundARolledBoard() {
        refused(INDEX, () -> busy(rolledPicture(".##.", "####")), t -> t.fill(4, 0), t -> t.fill(-1, 0), t -> t.fill(0, 2),
            t -> t.fill(0, -1));
    }

    // ---- 6 ----

    @Says(at = 6, is = {"Rolls the board, or not.", "`isRolled`: whether it is rolled then"})
    static void aBoardCanBeRolledAndUnrolled() {
        Tilecount t = of(4, 1);
        t.roll(true);
        due(text(t, t.covers()), "2");
        t.roll(false);
        due(text(t, t.covers()), "1");
        Tilecount some = bare(8, 8);
        due(some.roll(true), false);
        due(some.cells('a'), 0);
    }

    @Says(at = 6, is = "Returns whether it was.")
    static void whetherItWasIsToldOfTheStepAhead() {
        Tilecount t = of(6, 2);
        due(t.roll(false), false);
        due(t.roll(true), false);
        due(t.roll(true), true);
        due(t.roll(false), true);
        due(t.roll(false), false);
    }

    @Says(at = 6, is = "Throws `UnsupportedOperationException` if it is to be rolled, and cannot be")
    static void oddOrNarrowBoardsCantBeRolled() {
        for (int w : new int[] {1, 2, 3, 5, 7}) {
            refused(CANT, () -> busy(of(w, 4)), t -> t.roll(true));
        }
        for (int w : new int[] {4, 6, 8}) {
            due(of(w, 1).roll(true), false);
        }
    }

    @Says(at = 6, is = "Throws `UnsupportedOperationException` if it is to be rolled, and cannot be")
    static void aBoardThatCantBeRolledCanBeUnrolled() {
        for (int w : new int[] {1, 2, 3, 5, 7}) {
            due(of(w, 4).roll(false), false);
        }
    }

    // ---- 7 ----

    @Says(at = 7, is = {"Returns how many cells the board has.", "`what`: 'a' all, 'd' dark ones"})
    static void cellsOfEmptyAndFullBoards() {
        due(new Tilecount().cells('a'), 0);
        due(new Tilecount().cells('d'), 0);
        due(of(1, 1).cells('d'), 1);
        due(of(8, 8).cells('a'), 64);
        due(of(8, 8).cells('d'), 32);
        due(of(7, 7).cells('d'), 25);
        Tilecount t = of(7, 7);
        t.cut(0, 0);
        due(t.cells('d'), 24);
        t.cut(1, 0);
        due(t.cells('d'), 24);
        due(t.cells('a'), 47);
    }

    @Says(at = 7, is = "Throws `IllegalArgumentException` if there is no such thing")
    static void cellsOfAnotherSignAreRefused() {
        for (int sign = 0; sign < 128; sign++) {
            char what = (char) sign;
            if (what != 'a' && what != 'd') {
                due(outcome(of(2, 2), t -> t.cells(what)), "IllegalArgumentException");
            }
        }
        refused(BAD, () -> busy(of(4, 4)), t -> t.cells('A'), t -> t.cells((char) 0), t -> t.cells((char) 65535),
            t -> t.cells((char) ('d' + 256)));
    }

    // ---- 8 ----

    @Says(at = 8, is = "`x`: any number")
    static void anyXCanBeAskedFor() {
        Tilecount t = of(8, 8);
        for (int x : new int[] {-1, 8, 9, 64, -8, Integer.MIN_VALUE, Integer.MAX_VALUE}) {
            due(t.has(x, 0), false);
            due(t.has(x, 7), false);
        }
        due(t.has(0, 0) && t.has(7, 0), true);
    }

    @Says(at = 8, is = "`y`: any number")
    static void anyYCanBeAskedFor() {
        Tilecount t = of(8, 8);
        for (int y : new int[] {-1, 8, 9, 64, -8, Integer.MIN_VALUE, Integer.MAX_VALUE}) {
            due(t.has(0, y), false);
            due(t.has(7, y), false);
        }
        due(t.has(0, 7) && t.has(7, 7), true);
    }

    @Says(at = 8, is = {"Tells whether the board has a cell.", "Returns whether it has."})
    static void aRolledBoardHasNoCellsRoundIt() {
        Tilecount t = rolled(4, 2);
        due(t.has(4, 0), false);
        due(t.has(-1, 0), false);
        due(t.has(3, 1), true);
        t.cut(3, 1);
        due(t.has(3, 1), false);
    }

    // ---- 9 ----

    @Says(at = 9, is = "Returns how many parts the board has.")
    static void anEmptyBoardHasNoParts() {
        due(new Tilecount().parts(), 0);
        due(bare(8, 8).parts(), 0);
        due(of(1, 1).parts(), 1);
        due(of(8, 8).parts(), 1);
    }

    @Says(at = 9, is = "Returns how many parts the board has.")
    static void aBoardHasThirtyTwoPartsAtMost() {
        String[] dark = {"#.#.#.#.", ".#.#.#.#", "#.#.#.#.", ".#.#.#.#", "#.#.#.#.", ".#.#.#.#", "#.#.#.#.", ".#.#.#.#"};
        Tilecount t = picture(dark);
        due(t.parts(), 32);
        t.roll(true);
        due(t.parts(), 32);
        t.cut(7, 7);
        due(t.parts(), 31);
    }

    // ---- 10 ----

    @Says(at = 10, is = "Returns how many holes the board has.")
    static void emptyAndFullBoardsHaveNoHoles() {
        due(new Tilecount().holes(), 0);
        due(bare(8, 8).holes(), 0);
        due(of(8, 8).holes(), 0);
        Tilecount t = bare(8, 8);
        t.roll(true);
        due(t.holes(), 0);
        due(rolledPicture("#..#", "...#").holes(), 0);
    }

    @Says(at = 10, is = "Returns how many holes the board has.")
    static void aBoardHasEighteenHolesAtMostAndTwentyFourIfItIsRolled() {
        String[] rows = {"########", "##.#.#.#", "#.#.#.##", "##.#.#.#", "#.#.#.##", "##.#.#.#", "#.#.#.##", "########"};
        due(picture(rows).holes(), 18);
        String[] round = {"########", ".#.#.#.#", "#.#.#.#.", ".#.#.#.#", "#.#.#.#.", ".#.#.#.#", "#.#.#.#.", "########"};
        due(rolledPicture(round).holes(), 24);
        due(picture(round).holes(), 18);
    }
}
