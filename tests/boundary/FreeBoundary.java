/** The boundaries of part 3 and of the promises 27 to 29: cells that stay free. */
final class FreeBoundary extends Checks {

    private static final String PUT = "Put pieces, none with a cell of another one, as many as can be:";
    private static final String CAN = "cells that some such row of pieces leaves free can stay free.";
    private static final String NO_CELL = "Throws `IndexOutOfBoundsException` if the board has no such cell";
    private static final String[] DARK = {"#.#.#.#.", ".#.#.#.#", "#.#.#.#.", ".#.#.#.#", "#.#.#.#.", ".#.#.#.#",
        "#.#.#.#.", ".#.#.#.#"};

    /** The roles of all cells by rows. */
    private static String roles(Tilecount t, int w, int h) {
        StringBuilder roles = new StringBuilder();
        for (int y = 0; y < h; y++) {
            for (int x = 0; x < w; x++) {
                roles.append(t.has(x, y) ? t.role(x, y) : '.');
            }
        }
        return roles.toString();
    }

    // ---- part 3 ----

    @Says(at = 0, is = PUT)
    static void asManyPiecesArePutAsCanBe() {
        due(of(4, 1).free(), 0);
        due(of(5, 1).free(), 1);
        due(picture(".#..", "####", "..#.").free(), 2);
        due(picture("#.#.#", "#####", "#.#.#").free(), 5);
        due(picture("..#.", "####", ".#..").free(), 2);
        due(picture(".##.", "####", ".##.").free(), 0);
        due(picture("..#.", ".###", ".###", "..#.").free(), 0);
        due(picture("###", "#..").free(), 0);
        due(picture("########", ".......#", "########", "#.......", "########", ".......#", ".#######").free(), 0);
        due(picture("########", ".......#", "########", "#.......", "########", ".......#", "########").free(), 1);
    }

    @Says(at = 0, is = CAN)
    static void eachCellThatSomeRowLeavesFreeCanStayFree() {
        due(roles(of(3, 1), 3, 1), "fnf");
        due(roles(of(5, 1), 5, 1), "fnfnf");
        due(roles(of(4, 1), 4, 1), "----");
        due(roles(picture("#####", "..#.."), 5, 2), "-----..-..");
        due(roles(picture("###", ".#."), 3, 2), "fnf.f.");
        due(roles(picture("###.", "...#"), 4, 2), "fnf....f");
        due(roles(picture("###", "##."), 3, 2), "fnfnf.");
        due(roles(picture("#..", "##.", "###"), 3, 3), "f..nf.fnf");
        due(roles(picture("######", ".#...."), 6, 2), "fn----.f....");
    }

    @Says(at = 0, is = CAN)
    static void aCellCanStayFreeRoundARolledBoard() {
        due(roles(picture("##.#"), 4, 1), "--.f");
        due(roles(rolledPicture("##.#"), 4, 1), "nf.f");
        due(roles(rolledPicture("#######."), 8, 1), "fnfnfnf.");
        due(roles(rolledPicture(".#######"), 8, 1), ".fnfnfnf");
        due(roles(rolledPicture("##.#####"), 8, 1), "nf.fnfnf");
    }

    @Says(at = 0, is = "They are never neighbours.")
    static void noTwoThatCanStayFreeAreNeighbours() {
        noNeighbours(of(7, 7), 7, 7, false);
        noNeighbours(form('c', 8), 8, 8, false);
        noNeighbours(form('s', 8), 8, 8, false);
        noNeighbours(form('s', 7), 7, 7, false);
        noNeighbours(picture(DARK), 8, 8, false);
        noNeighbours(rolledPicture("#.######", "###.####", "##.#.###"), 8, 3, true);
        noNeighbours(rolledPicture("#.####", "###.##", ".####.", "##.###"), 6, 4, true);
        noNeighbours(rolledPicture("#######."), 8, 1, true);
    }

    private static void noNeighbours(Tilecount t, int w, int h, boolean isRolled) {
        String roles = roles(t, w, h);
        due(roles.indexOf('f') >= 0, true);
        for (int y = 0; y < h; y++) {
            for (int x = 0; x < w; x++) {
                int right = isRolled ? (x + 1) % w : x + 1;
                boolean isFree = roles.charAt(y * w + x) == 'f';
                due(isFree && right < w && roles.charAt(y * w + right) == 'f', false);
                due(isFree && y + 1 < h && roles.charAt((y + 1) * w + x) == 'f', false);
            }
        }
    }

    // ---- 27 ----

    @Says(at = 27, is = "Returns how many cells stay free at least, if pieces are put.")
    static void noneStayFreeOfEmptyAndCoveredBoards() {
        due(new Tilecount().free(), 0);
        due(bare(8, 8).free(), 0);
        due(of(8, 8).free(), 0);
        due(of(2, 1).free(), 0);
        due(form('a', 4).free(), 0);
    }

    @Says(at = 27, is = "Returns how many cells stay free at least, if pieces are put.")
    static void oneOrSomeOrAllStayFree() {
        due(of(1, 1).free(), 1);
        due(of(7, 7).free(), 1);
        due(form('c', 8).free(), 2);
        due(form('s', 8).free(), 4);
        due(picture(DARK).free(), 32);
        due(picture("##.#", ".#.#").free(), 1);
    }

    @Says(at = 27, is = "Returns how many cells stay free at least, if pieces are put.")
    static void fewerStayFreeIfTheBoardIsRolled() {
        Tilecount t = picture("#..#");
        due(t.free(), 2);
        t.roll(true);
        due(t.free(), 0);
        t.cut(0, 0);
        due(t.free(), 1);
    }

    // ---- 28 ----

    @Says(at = 28, is = {"Tells how it is with a cell.",
        "Returns 'f' if it can stay free, 'n' if it is a neighbour of one that can, '-' otherwise."})
    static void aCellIsFreeOrBesideOneOrNeither() {
        due(of(1, 1).role(0, 0), 'f');
        due(of(2, 1).role(0, 0), '-');
        Tilecount t = of(3, 3);
        due(roles(t, 3, 3), "fnfnfnfnf");
        due(roles(of(8, 8), 8, 8), "-".repeat(64));
        Tilecount corner = of(8, 8);
        corner.cut(7, 7);
        due(corner.role(7, 0), 'f');
        due(corner.role(0, 7), 'f');
        due(corner.role(0, 0), 'n');
        due(corner.role(6, 7), 'f');
    }

    @Says(at = 28, is = "`x`: its x")
    static void aCellHasAnXFromNoughtToOneLess() {
        range(INDEX, () -> busy(of(4, 2)), 0, 3, (t, n) -> t.role(n, 1));
    }

    @Says(at = 28, is = "`y`: its y")
    static void aCellHasAYFromNoughtToOneLess() {
        range(INDEX, () -> busy(of(4, 2)), 0, 1, (t, n) -> t.role(3, n));
    }

    @Says(at = 28, is = NO_CELL)
    static void theRoleOfACellBesideTheBoardIsRefused() {
        refused(INDEX, () -> busy(rolled(4, 2)), t -> t.role(4, 0), t -> t.role(-1, 0));
    }

    @Says(at = 28, is = NO_CELL)
    static void theRoleOfAMissingCellIsRefused() {
        refused(INDEX, Tilecount::new, t -> t.role(0, 0));
        refused(INDEX, () -> busy(form('a', 2)), t -> t.role(0, 0), t -> t.role(3, 3));
    }

    // ---- 29 ----

    @Says(at = 29, is = {"Returns how many cells have a role.", "`role`: 'f', 'n' or '-'"})
    static void rolesOfEmptyAndFullBoards() {
        Tilecount empty = new Tilecount();
        due(empty.roles('f') + empty.roles('n') + empty.roles('-'), 0);
        due(of(8, 8).roles('-'), 64);
        due(of(8, 8).roles('f') + of(8, 8).roles('n'), 0);
        due(picture(DARK).roles('f'), 32);
        due(of(1, 1).roles('f'), 1);
        Tilecount t = of(7, 7);
        due(t.roles('f'), 25);
        due(t.roles('n'), 24);
        due(t.roles('-'), 0);
        Tilecount some = picture("######", ".#....");
        due(some.roles('f'), 2);
        due(some.roles('n'), 1);
        due(some.roles('-'), 4);
    }

    @Says(at = 29, is = "Throws `IllegalArgumentException` if there is no such role")
    static void anotherRoleIsRefused() {
        for (int sign = 0; sign < 128; sign++) {
            char role = (char) sign;
            if (role != 'f' && role != 'n' && role != '-') {
                due(outcome(of(2, 2), t -> t.roles(role)), "IllegalArgumentException");
            }
        }
        refused(BAD, () -> busy(of(4, 4)), t -> t.roles('F'), t -> t.roles('N'), t -> t.roles((char) 0),
            t -> t.roles((char) 65535), t -> t.roles((char) ('f' + 256)));
    }
}
