import java.math.BigInteger;

/** The boundaries of the promises 11 to 14: counts and the text. */
final class CountBoundary extends Checks {

    private static final String COVERS = "Puts how many covers the board has into the text.";
    private static final String PIECE_X = "`x`: the x of its cell, the left one, or of one that goes round the last one of "
        + "the row, or the upper one";
    private static final String PLAIN = "Throws `UnsupportedOperationException` if the board is rolled, or has a hole";

    private static String covers(Tilecount t) {
        return text(t, t.covers());
    }

    private static String bySigns(Tilecount t) {
        return text(t, t.bySigns());
    }

    private static String having(Tilecount t, int x, int y, boolean isAcross) {
        return text(t, t.having(x, y, isAcross));
    }

    // ---- 11 ----

    @Says(at = 11, is = COVERS)
    static void coversOfTheSmallestBoards() {
        due(covers(new Tilecount()), "1");
        due(covers(of(1, 1)), "0");
        due(covers(of(2, 1)), "1");
        due(covers(of(1, 2)), "1");
        due(covers(of(2, 2)), "2");
    }

    @Says(at = 11, is = COVERS)
    static void coversOfTheGreatestBoards() {
        due(covers(of(8, 8)), "12988816");
        due(covers(of(8, 7)), "1292697");
        due(covers(of(7, 8)), "1292697");
        due(covers(of(8, 1)), "1");
        due(covers(of(1, 8)), "1");
        due(covers(bare(8, 8)), "1");
    }

    @Says(at = 11, is = COVERS)
    static void coversOfRolledBoards() {
        due(covers(rolled(4, 1)), "2");
        due(covers(rolled(8, 1)), "2");
        due(covers(rolled(4, 2)), "9");
        due(covers(rolled(4, 4)), "121");
        due(covers(rolled(8, 8)), Reckoned.round(8, 8));
        due(covers(rolled(6, 8)), Reckoned.round(6, 8));
        due(covers(rolledPicture("#..#")), "1");
        due(covers(rolledPicture("##.#")), "0");
        due(covers(rolledPicture("#...", "#...")), "1");
    }

    @Says(at = 11, is = COVERS)
    static void coversFollowEachChangeOfTheBoard() {
        Tilecount t = rolled(8, 8);
        t.covers();
        for (int w = 8; w >= 1; w--) {
            for (int h = 1; h <= 8; h += 3) {
                t.board(w, h);
                due(covers(t), covers(of(w, h)));
                if (w == 4 || w == 6 || w == 8) {
                    t.roll(true);
                    due(covers(t), covers(rolled(w, h)));
                    due(having(t, w - 1, 0, true), having(rolled(w, h), w - 1, 0, true));
                    t.cut(w - 1, 0);
                    due(covers(t), covers(rolledWithout(w, h)));
                }
            }
        }
    }

    private static Tilecount rolledWithout(int w, int h) {
        Tilecount t = of(w, h);
        t.cut(w - 1, 0);
        t.roll(true);
        return t;
    }

    @Says(at = 11, is = "Returns how many signs the text has then.")
    static void theSignsOfCoversAreCounted() {
        due(new Tilecount().covers(), 1);
        due(of(1, 1).covers(), 1);
        due(of(4, 4).covers(), 2);
        due(of(8, 8).covers(), 8);
        due(rolled(8, 8).covers(), Reckoned.round(8, 8).length());
    }

    // ---- 12 ----

    @Says(at = 12, is = "Puts how many covers the board has into the text, by a determinant with signs.")
    static void bySignsOfEmptyAndFullBoards() {
        due(bySigns(new Tilecount()), "1");
        due(bySigns(bare(8, 8)), "1");
        due(bySigns(of(8, 8)), "12988816");
        due(bySigns(of(1, 2)), "1");
    }

    @Says(at = 12, is = "Puts how many covers the board has into the text, by a determinant with signs.")
    static void bySignsOfBoardsWithoutACover() {
        due(bySigns(of(1, 1)), "0");
        due(bySigns(form('c', 8)), "0");
        due(bySigns(picture("#.", ".#")), "0");
        due(bySigns(picture("##.#", ".#.#")), "0");
        due(bySigns(picture("#.##", "#.#.", "#...", "#...")), "0");
        due(bySigns(picture("#..#", "....", "#..#")), "0");
    }

    @Says(at = 12, is = "Puts how many covers the board has into the text, by a determinant with signs.")
    static void bySignsIsNeverBelowNought() {
        due(bySigns(picture("#..##", "#....")), "1");
        due(bySigns(picture("#..##", "#..##")), "2");
        for (int w = 2; w <= 8; w++) {
            for (int h = 1; h <= 8; h++) {
                for (int cut = 0; cut < w; cut++) {
                    Tilecount t = of(w, h);
                    t.cut(cut, 0);
                    t.cut((cut + w - 1) % w, h - 1);
                    String covers = covers(t);
                    due(bySigns(t), covers);
                }
            }
        }
    }

    @Says(at = 12, is = "Returns how many signs the text has then.")
    static void theSignsOfBySignsAreCounted() {
        due(new Tilecount().bySigns(), 1);
        due(of(4, 4).bySigns(), 2);
        due(of(8, 8).bySigns(), 8);
    }

    @Says(at = 12, is = PLAIN)
    static void bySignsIsRefusedIfTheBoardIsRolled() {
        refused(CANT, () -> busy(rolled(4, 4)), Tilecount::bySigns);
        Tilecount t = bare(4, 1);
        t.roll(true);
        due(outcome(t, Tilecount::bySigns), "UnsupportedOperationException");
        t.roll(false);
        due(bySigns(t), "1");
    }

    @Says(at = 12, is = PLAIN)
    static void bySignsIsRefusedIfTheBoardHasAHole() {
        refused(CANT, () -> busy(form('o', 4)), Tilecount::bySigns);
        refused(CANT, () -> laden(picture(".###", "#.##", "####")), Tilecount::bySigns);
        Tilecount t = form('o', 3);
        due(outcome(t, Tilecount::bySigns), "UnsupportedOperationException");
        t.cut(1, 0);
        due(bySigns(t), "0");
    }

    // ---- 13 ----

    @Says(at = 13, is = "Puts how many covers have a piece into the text.")
    static void havingOfNoneAndOfAll() {
        due(having(of(1, 3), 0, 0, false), "0");
        due(having(of(2, 1), 0, 0, true), "1");
        due(having(of(1, 2), 0, 0, false), "1");
        due(having(of(1, 4), 0, 1, false), "0");
        due(having(of(8, 8), 0, 0, true), "6494408");
        due(having(of(8, 8), 6, 7, true), "6494408");
        due(having(of(8, 8), 7, 6, false), "6494408");
    }

    @Says(at = 13, is = PIECE_X)
    static void xIsThatOfTheLeftOrUpperCell() {
        Tilecount t = of(2, 3);
        due(having(t, 0, 0, true), "2");
        due(having(t, 0, 0, false), "1");
        due(having(t, 0, 1, true), "1");
        due(having(t, 1, 1, false), "1");
        refused(INDEX, () -> busy(of(2, 3)), u -> u.having(1, 0, true), u -> u.having(0, 2, false));
    }

    @Says(at = 13, is = PIECE_X)
    static void xOfAPieceThatGoesRoundIsTheLastOne() {
        Tilecount t = rolled(4, 2);
        due(having(t, 3, 0, true), "3");
        due(having(t, 0, 0, true), "3");
        due(having(t, 0, 0, false), "3");
        Tilecount one = rolledPicture("#..#");
        due(having(one, 3, 0, true), "1");
        refused(INDEX, () -> laden(rolledPicture("#..#")), u -> u.having(0, 0, true), u -> u.having(-1, 0, true));
    }

    @Says(at = 13, is = "`y`: its y")
    static void yIsThatOfTheUpperCell() {
        due(having(of(1, 8), 0, 6, false), "1");
        due(having(of(1, 8), 0, 5, false), "0");
        beyond(INDEX, () -> busy(of(4, 8)), 0, 6, (t, n) -> t.having(1, n, false));
        beyond(INDEX, () -> busy(of(4, 8)), 0, 7, (t, n) -> t.having(1, n, true));
    }

    @Says(at = 13, is = "`isAcross`: whether the piece lies across")
    static void aPieceLiesAcrossOrDown() {
        due(having(of(2, 1), 0, 0, true), "1");
        refused(INDEX, () -> busy(of(2, 1)), t -> t.having(0, 0, false), t -> t.having(1, 0, false));
        due(having(of(1, 2), 0, 0, false), "1");
        refused(INDEX, () -> busy(of(1, 2)), t -> t.having(0, 0, true), t -> t.having(0, 1, true));
    }

    @Says(at = 13, is = "Puts how many covers have a piece into the text.")
    static void havingFollowsEachChangeOfTheBoard() {
        Tilecount t = of(8, 8);
        t.having(0, 0, true);
        for (int w = 7; w >= 2; w--) {
            t.board(w, 4);
            due(having(t, 0, 1, true), having(of(w, 4), 0, 1, true));
            due(having(t, w - 1, 2, false), having(of(w, 4), w - 1, 2, false));
            t.cut(w - 1, 3);
            t.cut(w - 2, 3);
            Tilecount fresh = of(w, 4);
            fresh.cut(w - 1, 3);
            fresh.cut(w - 2, 3);
            due(having(t, 0, 0, true), having(fresh, 0, 0, true));
        }
    }

    @Says(at = 13, is = "Returns how many signs the text has then.")
    static void theSignsOfHavingAreCounted() {
        due(of(3, 3).having(0, 0, true), 1);
        due(of(4, 4).having(0, 0, true), 2);
        due(of(8, 8).having(0, 0, true), 7);
        BigInteger half = new BigInteger(Reckoned.round(8, 8));
        Tilecount t = rolled(8, 8);
        BigInteger across = new BigInteger(having(t, 7, 0, true));
        BigInteger down = new BigInteger(having(t, 7, 0, false));
        due(across.multiply(BigInteger.TWO).add(down), half);
    }

    @Says(at = 13, is = "Throws `IndexOutOfBoundsException` if there is no such piece")
    static void aPieceThatLeavesTheBoardIsRefused() {
        beyond(INDEX, () -> busy(of(8, 4)), 0, 6, (t, n) -> t.having(n, 0, true));
        beyond(INDEX, () -> busy(of(8, 4)), 0, 7, (t, n) -> t.having(n, 0, false));
        beyond(INDEX, () -> busy(rolled(8, 2)), 0, 7, (t, n) -> t.having(n, 0, true));
        beyond(INDEX, () -> busy(of(3, 2)), 0, 1, (t, n) -> t.having(n, 0, true));
    }

    @Says(at = 13, is = "Throws `IndexOutOfBoundsException` if there is no such piece")
    static void aPieceWithAMissingCellIsRefused() {
        refused(INDEX, () -> laden(picture("#.#", "###")), t -> t.having(0, 0, true), t -> t.having(1, 0, true),
            t -> t.having(1, 0, false));
        refused(INDEX, () -> laden(picture("###", "#.#")), t -> t.having(1, 0, false));
        refused(INDEX, () -> laden(rolledPicture(".###")), t -> t.having(3, 0, true));
        refused(INDEX, () -> laden(rolledPicture("###.")), t -> t.having(3, 0, true));
        refused(INDEX, () -> laden(new Tilecount()), t -> t.having(0, 0, true), t -> t.having(0, 0, false));
    }

    // ---- 14 ----

    @Says(at = 14, is = "`place`: its place, from 0")
    static void placesGoFromNoughtToOneLess() {
        Tilecount t = of(8, 8);
        due(t.covers(), 8);
        for (int i = 0; i < 8; i++) {
            due(t.signAt(i), "12988816".charAt(i));
        }
        refused(INDEX, () -> ladenWithEight(), u -> u.signAt(-1), u -> u.signAt(8));
    }

    private static Tilecount ladenWithEight() {
        Tilecount t = laden(of(8, 8));
        t.covers();
        return t;
    }

    @Says(at = 14, is = {"Returns a sign of the text.", "Returns the sign."})
    static void theSignsAreDigitsAndPerhapsAMinusAhead() {
        Tilecount t = new Tilecount();
        due(t.rule(5, 4), 3);
        due(t.signAt(0), '-');
        due(t.signAt(1), '3');
        due(t.signAt(2), '2');
        t.rule(1, 1);
        due(t.signAt(0), '0');
    }

    @Says(at = 14, is = "Throws `IndexOutOfBoundsException` if there is no such place")
    static void thereIsNoPlaceInAnEmptyText() {
        refused(INDEX, Tilecount::new, t -> t.signAt(0), t -> t.signAt(-1), t -> t.signAt(1));
        refused(INDEX, () -> of(8, 8), t -> t.signAt(0));
    }

    @Says(at = 14, is = "Throws `IndexOutOfBoundsException` if there is no such place")
    static void thereIsNoPlaceBehindTheText() {
        beyond(INDEX, () -> busy(of(4, 4)), 0, 1, Tilecount::signAt);
        Tilecount t = of(8, 8);
        t.strip(6, 300);
        t.covers();
        due(t.signAt(7), '6');
        due(outcome(t, u -> u.signAt(8)), "IndexOutOfBoundsException");
    }
}
