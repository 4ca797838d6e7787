import java.math.BigInteger;
import java.util.NoSuchElementException;

/** One method a promise of the document: ordinary inputs, the edges that it names, and wrong inputs. */
public final class PromiseTests {

    private static final Class<?> BAD = IllegalArgumentException.class;
    private static final Class<?> STATE = IllegalStateException.class;
    private static final Class<?> INDEX = IndexOutOfBoundsException.class;
    private static final Class<?> NONE = NoSuchElementException.class;
    private static final Class<?> CANT = UnsupportedOperationException.class;
    private static final Class<?> SUM = ArithmeticException.class;

    private static int wrong = 0;
    private static int checks = 0;
    private static int promise = 0;

    private interface Call {
        void make() throws Exception;
    }

    private static void due(Object got, Object want) {
        checks++;
        if (!want.equals(got)) {
            wrong++;
            StackTraceElement at = new Throwable().getStackTrace()[1];
            System.out.println("promise " + promise + ", line " + at.getLineNumber() + ": answered " + got
                + ", due is " + want);
        }
    }

    /** The call throws just this exception and changes nothing that the checksum tells. */
    private static void throwing(Tilecount t, Class<?> want, Call call) {
        checks++;
        long before = t.checksum();
        Class<?> got = null;
        try {
            call.make();
        } catch (Exception e) {
            got = e.getClass();
        }
        if (got != want || t.checksum() != before) {
            wrong++;
            StackTraceElement at = new Throwable().getStackTrace()[1];
            System.out.println("promise " + promise + ", line " + at.getLineNumber() + ": threw " + got + ", due is "
                + want + (t.checksum() != before ? "; it changed something" : ""));
        }
    }

    private static String text(Tilecount t, int signs) {
        StringBuilder text = new StringBuilder();
        for (int i = 0; i < signs; i++) {
            text.append(t.signAt(i));
        }
        try {
            t.signAt(signs);
            return text + " and more";
        } catch (IndexOutOfBoundsException e) {
            return text.toString();
        }
    }

    private static Tilecount of(int w, int h) {
        Tilecount t = new Tilecount();
        t.board(w, h);
        return t;
    }

    private static Tilecount rolled(int w, int h) {
        Tilecount t = of(w, h);
        t.roll(true);
        return t;
    }

    private static Tilecount form(char kind, int n) {
        Tilecount t = new Tilecount();
        t.form(kind, n);
        return t;
    }

    /** What other() tells of all cells by rows. */
    private static String codes(Tilecount t, int w, int h) {
        StringBuilder codes = new StringBuilder();
        for (int y = 0; y < h; y++) {
            for (int x = 0; x < w; x++) {
                codes.append(t.has(x, y) ? t.other(x, y) : '.');
            }
        }
        return codes.toString();
    }

    /** Draws the cover that has these codes. */
    private static void drawAs(Tilecount t, int w, int h, String codes) {
        int many = Integer.parseInt(text(t, t.covers()));
        for (int i = 0; i < many; i++) {
            t.draw(i);
            if (codes(t, w, h).equals(codes)) {
                return;
            }
        }
        due("no such cover", codes);
    }

    private static void type(Tilecount t, int... cells) {
        for (int i = 0; i < cells.length; i += 2) {
            t.pieceCell(cells[i], cells[i + 1]);
        }
    }

    public static void main(String[] args) throws Exception {
        for (promise = 1; promise <= 47; promise++) {
            int before = checks;
            PromiseTests.class.getDeclaredMethod("promise" + promise).invoke(null);
            if (checks == before) {
                wrong++;
                System.out.println("promise " + promise + " has no check");
            }
        }
        System.out.println("47 promises, " + checks + " checks, " + wrong + " wrong");
        if (wrong > 0) {
            System.exit(1);
        }
    }

    private static long sumOf(long... items) {
        long sum = 7;
        for (long item : items) {
            sum = 31 * sum + item;
        }
        return sum;
    }

    static void promise1() {
        Tilecount t = new Tilecount();
        due(t.checksum(), sumOf(1, 1, 0, 0, 0));
        due(t.cells('a'), 0);
        due(t.has(0, 0), false);
        due(t.parts(), 0);
        due(t.holes(), 0);
        due(t.free(), 0);
        due(t.exact(), 1);
        due(t.unlike(), 1);
        throwing(t, INDEX, () -> t.signAt(0));
        throwing(t, NONE, t::number);
        throwing(t, NONE, t::next);
        throwing(t, NONE, t::previous);
        throwing(t, NONE, t::keep);
        throwing(t, STATE, t::undo);
        throwing(t, STATE, () -> t.kind(true, true, 1));
        due(t.clear(), 0);
        due(t.fill(0, 0), 1);
        due(new Tilecount().draw(3), 0);
    }

    static void promise2() {
        Tilecount t = new Tilecount();
        due(t.board(8, 8), 64);
        due(t.board(1, 1), 1);
        due(t.board(1, 8), 8);
        due(t.has(0, 7), true);
        due(t.has(1, 0), false);
        due(t.board(8, 1), 8);
        due(t.has(7, 0), true);
        throwing(t, BAD, () -> t.board(0, 4));
        throwing(t, BAD, () -> t.board(9, 4));
        throwing(t, BAD, () -> t.board(4, 0));
        throwing(t, BAD, () -> t.board(4, 9));
        throwing(t, BAD, () -> t.board(Integer.MIN_VALUE, Integer.MAX_VALUE));
        t.roll(true);
        due(t.board(4, 4), 16);
        due(t.roll(false), false);
        t.draw(2);
        t.keep();
        t.covers();
        t.board(4, 4);
        due(text(t, 2), "36");
        throwing(t, NONE, t::number);
        throwing(t, NONE, t::apart);
        throwing(t, STATE, t::undo);
        t.draw(2);
        throwing(t, NONE, t::apart);
        t.draw(3);
        throwing(t, BAD, () -> t.board(4, -1));
        due(t.undo(), 1);
    }

    static void promise3() {
        int[] aztec = {4, 12, 24, 40};
        Tilecount t = new Tilecount();
        for (int n = 1; n <= 4; n++) {
            due(t.form('a', n), aztec[n - 1]);
            due(text(t, t.covers()), String.valueOf(1 << n * (n + 1) / 2));
        }
        for (int n = 1; n <= 8; n++) {
            due(t.form('s', n), n * (n + 1) / 2);
            due(t.has(0, n - 1) && t.has(n - 1, n - 1), true);
            due(t.has(n - 1, 0), n == 1);
        }
        for (int n = 3; n <= 8; n++) {
            due(t.form('o', n), 4 * n - 4);
            due(t.has(n - 1, n - 1) && !t.has(1, 1) && !t.has(n - 2, n - 2), true);
        }
        for (int n = 2; n <= 8; n++) {
            due(t.form('c', n), n * n - 2);
            due(!t.has(0, 0) && !t.has(n - 1, n - 1) && t.has(n - 1, 0) && t.has(0, n - 1), true);
        }
        t.form('a', 2);
        StringBuilder cells = new StringBuilder();
        for (int i = 0; i < 16; i++) {
            cells.append(t.has(i % 4, i / 4) ? 1 : 0);
        }
        due(cells.toString(), "0110111111110110");
        for (int n : new int[] {-1, 0, 5}) {
            throwing(t, BAD, () -> t.form('a', n));
        }
        for (int n : new int[] {-1, 0, 9}) {
            throwing(t, BAD, () -> t.form('s', n));
        }
        for (int n : new int[] {2, 9}) {
            throwing(t, BAD, () -> t.form('o', n));
        }
        for (int n : new int[] {1, 9}) {
            throwing(t, BAD, () -> t.form('c', n));
        }
        throwing(t, BAD, () -> t.form('b', 3));
        throwing(t, BAD, () -> t.form('A', 3));
        throwing(t, BAD, () -> t.form((char) 0, 3));
        t.board(4, 4);
        t.roll(true);
        t.draw(0);
        t.form('a', 2);
        due(t.roll(false), false);
        t.draw(0);
        t.form('a', 2);
        throwing(t, NONE, t::flips);
        throwing(t, STATE, t::undo);
    }

    static void promise4() {
        Tilecount t = of(3, 2);
        due(t.cut(2, 1), 5);
        due(t.has(2, 1), false);
        throwing(t, INDEX, () -> t.cut(2, 1));
        throwing(t, INDEX, () -> t.cut(3, 0));
        throwing(t, INDEX, () -> t.cut(0, 2));
        throwing(t, INDEX, () -> t.cut(-1, 0));
        throwing(t, INDEX, () -> t.cut(0, -1));
        throwing(t, INDEX, () -> t.cut(Integer.MAX_VALUE, Integer.MIN_VALUE));
        due(t.cut(0, 0), 4);
        Tilecount u = rolled(4, 4);
        u.draw(0);
        u.keep();
        due(u.cut(3, 3), 15);
        due(u.roll(true), true);
        throwing(u, NONE, u::cuts);
        throwing(u, STATE, u::undo);
        throwing(new Tilecount(), INDEX, () -> new Tilecount().cut(0, 0));
    }

    static void promise5() {
        Tilecount t = of(2, 3);
        throwing(t, INDEX, () -> t.fill(0, 0));
        t.cut(0, 0);
        t.cut(1, 2);
        due(t.fill(1, 2), 5);
        due(t.has(1, 2), true);
        due(t.has(0, 0), false);
        throwing(t, INDEX, () -> t.fill(1, 2));
        throwing(t, INDEX, () -> t.fill(2, 0));
        throwing(t, INDEX, () -> t.fill(0, 3));
        throwing(t, INDEX, () -> t.fill(-1, 0));
        throwing(t, INDEX, () -> t.fill(0, -1));
        t.cut(1, 2);
        t.draw(0);
        due(t.fill(1, 2), 5);
        throwing(t, STATE, t::undo);
        due(t.fill(0, 0), 6);
        throwing(new Tilecount(), INDEX, () -> new Tilecount().fill(1, 0));
    }

    static void promise6() {
        Tilecount t = of(4, 1);
        due(t.roll(true), false);
        due(t.roll(true), true);
        due(text(t, t.covers()), "2");
        t.draw(1);
        due(t.roll(true), true);
        throwing(t, NONE, t::flips);
        throwing(t, STATE, t::undo);
        due(t.roll(false), true);
        due(t.roll(false), false);
        due(text(t, t.covers()), "1");
        t.draw(0);
        due(t.roll(false), false);
        throwing(t, NONE, t::flips);
        for (int w : new int[] {1, 2, 3, 5, 7}) {
            Tilecount u = of(w, 4);
            throwing(u, CANT, () -> u.roll(true));
            due(u.roll(false), false);
        }
        for (int w : new int[] {4, 6, 8}) {
            due(of(w, 3).roll(true), false);
        }
        Tilecount v = of(2, 2);
        v.draw(1);
        throwing(v, CANT, () -> v.roll(true));
        due(v.undo(), 0);
    }

    static void promise7() {
        Tilecount t = of(3, 3);
        due(t.cells('a'), 9);
        due(t.cells('d'), 5);
        t.cut(1, 1);
        due(t.cells('a'), 8);
        due(t.cells('d'), 4);
        t.cut(1, 0);
        due(t.cells('d'), 4);
        due(of(8, 8).cells('d'), 32);
        due(form('c', 8).cells('d'), 30);
        throwing(t, BAD, () -> t.cells('l'));
        throwing(t, BAD, () -> t.cells('D'));
        throwing(t, BAD, () -> t.cells((char) 65535));
    }

    static void promise8() {
        Tilecount t = of(8, 2);
        due(t.has(7, 1), true);
        due(t.has(8, 0), false);
        due(t.has(-1, 1), false);
        due(t.has(0, 2), false);
        due(t.has(0, -1), false);
        due(t.has(Integer.MIN_VALUE, Integer.MIN_VALUE), false);
        due(t.has(Integer.MAX_VALUE, 0), false);
        due(t.has(64, 0), false);
        t.roll(true);
        due(t.has(8, 0), false);
        t.cut(3, 1);
        due(t.has(3, 1), false);
    }

    static void promise9() {
        Tilecount t = of(4, 2);
        due(t.parts(), 1);
        t.cut(1, 0);
        t.cut(1, 1);
        due(t.parts(), 2);
        t.roll(true);
        due(t.parts(), 1);
        t.cut(3, 0);
        due(t.parts(), 1);
        t.cut(3, 1);
        due(t.parts(), 2);
        Tilecount u = of(8, 8);
        for (int i = 0; i < 64; i++) {
            if ((i / 8 + i % 8) % 2 == 0) {
                u.cut(i % 8, i / 8);
            }
        }
        due(u.parts(), 32);
        Tilecount v = of(2, 2);
        v.cut(0, 0);
        v.cut(1, 1);
        due(v.parts(), 2);
    }

    static void promise10() {
        due(of(8, 8).holes(), 0);
        due(form('o', 3).holes(), 1);
        due(form('o', 8).holes(), 1);
        due(form('s', 8).holes(), 0);
        Tilecount t = of(4, 4);
        t.cut(1, 1);
        t.cut(2, 2);
        due(t.holes(), 2);
        t.cut(1, 2);
        due(t.holes(), 1);
        t.cut(0, 1);
        due(t.holes(), 0);
        Tilecount u = of(4, 3);
        u.cut(0, 1);
        u.cut(3, 1);
        due(u.holes(), 0);
        u.roll(true);
        due(u.holes(), 1);
        u.cut(0, 0);
        due(u.holes(), 0);
        Tilecount v = of(6, 3);
        v.cut(0, 1);
        v.cut(2, 1);
        v.roll(true);
        due(v.holes(), 2);
    }

    static void promise11() {
        Tilecount t = new Tilecount();
        due(text(t, t.covers()), "1");
        due(text(of(8, 8)), "12988816");
        due(text(of(6, 6)), "6728");
        due(text(of(3, 3)), "0");
        due(text(of(1, 8)), "1");
        due(text(of(1, 7)), "0");
        due(text(form('c', 8)), "0");
        due(text(form('o', 5)), "2");
        due(text(rolled(4, 2)), "9");
        due(text(rolled(4, 1)), "2");
        due(text(rolled(8, 1)), "2");
        due(text(rolled(4, 3)), "32");
        due(text(rolled(8, 8)), Reckoned.round(8, 8));
        due(text(rolled(6, 8)), Reckoned.round(6, 8));
        due(text(rolled(6, 5)), Reckoned.round(6, 5));
        Tilecount u = of(8, 8);
        due(u.covers(), 8);
    }

    private static String text(Tilecount t) {
        return text(t, t.covers());
    }

    static void promise12() {
        Tilecount t = of(8, 8);
        due(text(t, t.bySigns()), "12988816");
        for (int w = 1; w <= 8; w++) {
            for (int h = 1; h <= 8; h++) {
                Tilecount u = of(w, h);
                String want = text(u, u.covers());
                due(text(u, u.bySigns()), want);
            }
        }
        for (int n = 1; n <= 4; n++) {
            Tilecount u = form('a', n);
            due(text(u, u.bySigns()), String.valueOf(1 << n * (n + 1) / 2));
        }
        Tilecount empty = new Tilecount();
        due(text(empty, empty.bySigns()), "1");
        Tilecount ring = form('o', 4);
        throwing(ring, CANT, ring::bySigns);
        ring.cut(0, 0);
        throwing(ring, CANT, ring::bySigns);
        Tilecount round = rolled(4, 4);
        throwing(round, CANT, round::bySigns);
        round.roll(false);
        due(text(round, round.bySigns()), "36");
        Tilecount two = of(5, 4);
        for (int y = 0; y < 4; y++) {
            two.cut(2, y);
        }
        due(text(two, two.bySigns()), "25");
    }

    static void promise13() {
        Tilecount t = of(8, 8);
        due(text(t, t.having(0, 0, true)), "6494408");
        due(text(t, t.having(0, 0, false)), "6494408");
        due(text(t, t.having(6, 7, true)), "6494408");
        throwing(t, INDEX, () -> t.having(7, 0, true));
        throwing(t, INDEX, () -> t.having(0, 7, false));
        throwing(t, INDEX, () -> t.having(-1, 0, true));
        throwing(t, INDEX, () -> t.having(0, -1, false));
        throwing(t, INDEX, () -> t.having(8, 8, true));
        t.roll(true);
        String round = text(t, t.having(7, 0, true));
        due(text(t, t.having(0, 0, true)), round);
        due(text(t, t.having(3, 0, true)), round);
        throwing(t, INDEX, () -> t.having(-1, 0, true));
        throwing(t, INDEX, () -> t.having(0, 7, false));
        Tilecount u = of(3, 3);
        due(text(u, u.having(0, 0, true)), "0");
        u.cut(1, 0);
        throwing(u, INDEX, () -> u.having(0, 0, true));
        throwing(u, INDEX, () -> u.having(1, 0, false));
        due(text(u, u.having(0, 0, false)), "0");
        Tilecount v = of(2, 3);
        due(text(v, v.having(0, 0, true)), "2");
        due(text(v, v.having(0, 1, true)), "1");
        due(text(v, v.having(1, 1, false)), "1");
    }

    static void promise14() {
        Tilecount t = of(4, 4);
        throwing(t, INDEX, () -> t.signAt(0));
        due(t.covers(), 2);
        due(t.signAt(0), '3');
        due(t.signAt(1), '6');
        throwing(t, INDEX, () -> t.signAt(2));
        throwing(t, INDEX, () -> t.signAt(-1));
        throwing(t, INDEX, () -> t.signAt(Integer.MAX_VALUE));
        throwing(t, INDEX, () -> t.signAt(Integer.MIN_VALUE));
        t.rule(3, 4);
        due(t.signAt(0), '-');
        due(t.signAt(1), '1');
        t.rooks(0);
        throwing(t, INDEX, () -> t.signAt(1));
    }

    static void promise15() {
        Tilecount t = of(2, 3);
        due(t.draw(0), 3);
        due(codes(t, 2, 3), "ewewew");
        t.draw(1);
        due(codes(t, 2, 3), "ewssnn");
        t.draw(2);
        due(codes(t, 2, 3), "ssnnew");
        t.draw(3);
        due(codes(t, 2, 3), "ewewew");
        t.draw(-1);
        due(codes(t, 2, 3), "ssnnew");
        t.draw(Long.MIN_VALUE);
        due(text(t, t.number()), String.valueOf(Math.floorMod(Long.MIN_VALUE, 3L)));
        t.draw(Long.MAX_VALUE);
        due(text(t, t.number()), String.valueOf(Long.MAX_VALUE % 3));
        Tilecount u = rolled(4, 1);
        due(u.draw(0), 2);
        due(codes(u, 4, 1), "ewew");
        u.draw(1);
        due(codes(u, 4, 1), "wewe");
        Tilecount v = of(3, 3);
        throwing(v, NONE, () -> v.draw(0));
        throwing(v, STATE, v::undo);
        Tilecount big = of(8, 8);
        due(big.draw(12988816L * 5 + 1234567), 32);
        due(text(big, big.number()), "1234567");
        Tilecount empty = new Tilecount();
        due(empty.draw(-7), 0);
        due(text(empty, empty.number()), "0");
    }

    static void promise16() {
        Tilecount t = of(4, 4);
        throwing(t, NONE, t::next);
        t.draw(0);
        for (int i = 1; i < 36; i++) {
            due(t.next(), true);
            due(text(t, t.number()), String.valueOf(i));
        }
        due(t.next(), false);
        due(text(t, t.number()), "0");
        due(codes(t, 4, 4), "ewewewewewewewew");
        Tilecount one = of(1, 2);
        one.draw(0);
        due(one.next(), false);
        due(one.undo(), 1);
        throwing(of(3, 3), NONE, () -> of(3, 3).next());
    }

    static void promise17() {
        Tilecount t = rolled(4, 2);
        throwing(t, NONE, t::previous);
        t.draw(0);
        due(t.previous(), false);
        due(text(t, t.number()), "8");
        for (int i = 7; i >= 0; i--) {
            due(t.previous(), true);
            due(text(t, t.number()), String.valueOf(i));
        }
        due(t.previous(), false);
        due(codes(t, 4, 2), "wssewnne");
        due(t.undo(), 9);
        due(text(t, t.number()), "0");
    }

    static void promise18() {
        Tilecount t = of(8, 8);
        throwing(t, NONE, t::number);
        t.draw(12988815);
        due(t.number(), 8);
        due(text(t, 8), "12988815");
        due(codes(t, 8, 8).startsWith("ssssssssnnnnnnnn"), true);
        t.draw(0);
        due(t.number(), 1);
        due(text(t, 1), "0");
        Tilecount u = rolled(8, 8);
        String all = text(u, u.covers());
        u.draw(-1);
        due(text(u, u.number()), new BigInteger(all).subtract(BigInteger.ONE).toString());
    }

    static void promise19() {
        Tilecount t = of(2, 2);
        throwing(t, NONE, () -> t.other(0, 0));
        throwing(t, INDEX, () -> t.other(2, 0));
        t.draw(0);
        due(codes(t, 2, 2), "ewew");
        t.draw(1);
        due(codes(t, 2, 2), "ssnn");
        throwing(t, INDEX, () -> t.other(0, 2));
        throwing(t, INDEX, () -> t.other(-1, 0));
        throwing(t, INDEX, () -> t.other(0, -1));
        t.board(3, 2);
        t.cut(0, 0);
        throwing(t, INDEX, () -> t.other(0, 0));
        Tilecount u = rolled(4, 1);
        u.draw(1);
        due(u.other(0, 0), 'w');
        due(u.other(3, 0), 'e');
        due(u.other(1, 0), 'e');
        due(u.other(2, 0), 'w');
    }

    static void promise20() {
        Tilecount t = of(2, 3);
        throwing(t, NONE, t::flips);
        t.draw(0);
        due(t.flips(), 2);
        t.draw(1);
        due(t.flips(), 1);
        Tilecount u = of(8, 8);
        u.draw(0);
        due(u.flips(), 28);
        Tilecount v = rolled(4, 2);
        drawAs(v, 4, 2, "wewewewe");
        due(v.flips(), 2);
        v.draw(0);
        due(v.flips(), 2);
        drawAs(v, 4, 2, "ssssnnnn");
        due(v.flips(), 4);
        drawAs(v, 4, 2, "ewewwewe");
        due(v.flips(), 0);
        Tilecount w = new Tilecount();
        w.draw(0);
        due(w.flips(), 0);
    }

    static void promise21() {
        Tilecount t = of(2, 3);
        throwing(t, NONE, () -> t.flip(0));
        t.draw(0);
        throwing(t, INDEX, () -> t.flip(2));
        throwing(t, INDEX, () -> t.flip(-1));
        throwing(t, INDEX, () -> t.flip(Integer.MAX_VALUE));
        throwing(t, INDEX, () -> t.flip(Integer.MIN_VALUE));
        due(t.flip(0), 1);
        due(codes(t, 2, 3), "ssnnew");
        due(t.flip(0), 2);
        due(t.flip(1), 1);
        due(codes(t, 2, 3), "ewssnn");
        throwing(t, INDEX, () -> t.flip(1));
        due(t.undo(), 3);
        due(codes(t, 2, 3), "ewewew");
        Tilecount u = rolled(4, 2);
        drawAs(u, 4, 2, "wewewewe");
        due(u.flip(1), 2);
        due(codes(u, 4, 2), "sewsnewn");
        due(u.flip(1), 2);
        due(codes(u, 4, 2), "wewewewe");
        due(u.flip(0), 2);
        due(codes(u, 4, 2), "wssewnne");
    }

    static void promise22() {
        Tilecount t = of(4, 4);
        throwing(t, STATE, t::undo);
        for (int i = 0; i < 12; i++) {
            t.draw(i);
        }
        for (int i = 9; i >= 0; i--) {
            due(t.undo(), i);
            due(text(t, t.number()), String.valueOf(i + 1));
        }
        throwing(t, STATE, t::undo);
        t.next();
        t.previous();
        t.flip(0);
        due(t.undo(), 2);
        due(text(t, t.number()), "1");
        due(t.undo(), 1);
        due(text(t, t.number()), "2");
        Tilecount u = of(2, 2);
        u.draw(1);
        u.keep();
        due(u.undo(), 0);
        throwing(u, NONE, u::flips);
        throwing(u, NONE, u::apart);
        u.draw(0);
        due(u.apart(), 1);
        u.cut(0, 0);
        throwing(u, STATE, u::undo);
        u.fill(0, 0);
        u.draw(0);
    }

    static void promise23() {
        Tilecount t = of(2, 3);
        throwing(t, NONE, t::keep);
        t.draw(0);
        due(t.keep(), 2);
        t.draw(2);
        due(t.apart(), 1);
        due(t.keep(), 1);
        due(t.apart(), 0);
        t.draw(1);
        due(t.apart(), 2);
        due(t.undo(), 2);
        due(t.apart(), 0);
        t.roll(false);
        t.draw(0);
        throwing(t, NONE, t::apart);
    }

    static void promise24() {
        Tilecount empty = new Tilecount();
        empty.draw(0);
        throwing(empty, NONE, empty::apart);
        empty.keep();
        due(empty.apart(), 0);
        Tilecount t = of(8, 8);
        throwing(t, NONE, t::apart);
        t.draw(0);
        throwing(t, NONE, t::apart);
        t.keep();
        due(t.apart(), 0);
        for (int i = 1; i <= 6; i++) {
            t.flip(0);
            due(t.apart(), i % 2);
        }
        t.draw(12988815);
        due(t.apart(), 16);
        t.draw(6000000);
        t.keep();
        t.draw(7000000);
        int far = t.apart();
        t.keep();
        t.draw(6000000);
        due(t.apart(), far);
        due(far > 0, true);
        for (int n = 1; n <= 4; n++) {
            Tilecount aztec = form('a', n);
            aztec.draw(0);
            aztec.keep();
            aztec.draw(-1);
            due(aztec.apart(), n * (n + 1) * (2 * n + 1) / 6);
        }
        Tilecount u = of(1, 2);
        u.draw(0);
        u.keep();
        due(u.apart(), 0);
        Tilecount round = rolled(4, 2);
        throwing(round, CANT, round::apart);
        round.draw(0);
        round.keep();
        throwing(round, CANT, round::apart);
        Tilecount ring = form('o', 3);
        ring.draw(0);
        ring.keep();
        throwing(ring, CANT, ring::apart);
    }

    static void promise25() {
        Tilecount t = of(2, 2);
        throwing(t, NONE, () -> t.height(0, 0));
        throwing(t, INDEX, () -> t.height(3, 0));
        t.draw(0);
        int[] across = {0, -1, 0, 1, 2, 1, 0, -1, 0};
        int[] upright = {0, -1, 0, 1, -2, 1, 0, -1, 0};
        for (int i = 0; i < 9; i++) {
            due(t.height(i % 3, i / 3), across[i]);
        }
        t.draw(1);
        for (int i = 0; i < 9; i++) {
            due(t.height(i % 3, i / 3), upright[i]);
        }
        throwing(t, INDEX, () -> t.height(-1, 0));
        throwing(t, INDEX, () -> t.height(0, -1));
        throwing(t, INDEX, () -> t.height(0, 3));
        throwing(t, INDEX, () -> t.height(Integer.MAX_VALUE, Integer.MIN_VALUE));
        Tilecount two = of(5, 2);
        two.cut(2, 0);
        two.cut(2, 1);
        two.draw(0);
        due(two.height(3, 0), 0);
        due(two.height(4, 0), 1);
        two.cut(3, 0);
        two.cut(4, 0);
        two.draw(0);
        throwing(two, INDEX, () -> two.height(4, 0));
        due(two.height(4, 1), -1);
        Tilecount round = rolled(4, 2);
        throwing(round, CANT, () -> round.height(0, 0));
        throwing(round, CANT, () -> round.height(9, 9));
        Tilecount ring = form('o', 3);
        throwing(ring, CANT, () -> ring.height(-1, 0));
        Tilecount empty = new Tilecount();
        throwing(empty, INDEX, () -> empty.height(0, 0));
        Tilecount full = of(8, 8);
        full.draw(0);
        due(full.height(8, 8), 0);
        due(full.height(8, 0), 0);
        due(full.height(7, 0), -1);
    }

    static void promise26() {
        Tilecount t = of(2, 3);
        throwing(t, NONE, t::cuts);
        t.draw(0);
        due(t.cuts(), 2);
        t.draw(1);
        due(t.cuts(), 1);
        Tilecount u = rolled(4, 2);
        u.draw(0);
        due(u.cuts(), 3);
        u.draw(8);
        due(u.cuts(), 3);
        u.roll(false);
        u.draw(0);
        due(u.cuts(), 2);
        Tilecount v = of(3, 3);
        for (int i = 0; i < 9; i++) {
            v.cut(i % 3, i / 3);
        }
        v.draw(0);
        due(v.cuts(), 4);
        Tilecount w = new Tilecount();
        w.draw(0);
        due(w.cuts(), 0);
    }

    static void promise27() {
        due(new Tilecount().free(), 0);
        due(of(8, 8).free(), 0);
        due(of(3, 3).free(), 1);
        due(form('c', 8).free(), 2);
        due(form('s', 8).free(), 4);
        due(form('s', 1).free(), 1);
        Tilecount t = of(4, 1);
        t.cut(1, 0);
        due(t.free(), 1);
        t.roll(true);
        due(t.free(), 1);
        t.cut(2, 0);
        due(t.free(), 2 - 2);
        t.roll(false);
        due(t.free(), 2);
    }

    static void promise28() {
        Tilecount t = of(3, 3);
        due(t.role(0, 0), 'f');
        due(t.role(1, 1), 'f');
        due(t.role(1, 0), 'n');
        throwing(t, INDEX, () -> t.role(3, 0));
        throwing(t, INDEX, () -> t.role(0, 3));
        throwing(t, INDEX, () -> t.role(-1, 0));
        throwing(t, INDEX, () -> t.role(0, -1));
        t.cut(0, 1);
        throwing(t, INDEX, () -> t.role(0, 1));
        due(of(2, 2).role(1, 1), '-');
        Tilecount u = of(6, 1);
        u.cut(3, 0);
        due(u.role(0, 0), 'f');
        due(u.role(1, 0), 'n');
        due(u.role(2, 0), 'f');
        due(u.role(4, 0), '-');
        u.roll(true);
        due(u.role(4, 0), 'f');
        due(u.role(5, 0), 'n');
        due(u.role(0, 0), 'f');
    }

    static void promise29() {
        Tilecount t = of(3, 3);
        due(t.roles('f'), 5);
        due(t.roles('n'), 4);
        due(t.roles('-'), 0);
        due(of(8, 8).roles('-'), 64);
        throwing(t, BAD, () -> t.roles('F'));
        throwing(t, BAD, () -> t.roles('x'));
        throwing(t, BAD, () -> t.roles((char) 0));
        Tilecount u = form('s', 8);
        due(u.roles('f') - u.roles('n'), 4);
        due(u.roles('f') + u.roles('n') + u.roles('-'), 36);
        due(new Tilecount().roles('-'), 0);
    }

    static void promise30() {
        Tilecount t = new Tilecount();
        due(t.pieceCell(0, 0), 1);
        due(t.pieceCell(0, 0), 1);
        due(t.pieceCell(5, 5), 2);
        throwing(t, BAD, () -> t.pieceCell(6, 0));
        throwing(t, BAD, () -> t.pieceCell(0, 6));
        throwing(t, BAD, () -> t.pieceCell(-1, 0));
        throwing(t, BAD, () -> t.pieceCell(0, -1));
        for (int i = 1; i <= 4; i++) {
            due(t.pieceCell(i, 0), 2 + i);
        }
        throwing(t, STATE, () -> t.pieceCell(0, 1));
        throwing(t, BAD, () -> t.pieceCell(0, 7));
        due(t.pieceCell(5, 5), 6);
        due(t.pieceCell(4, 0), 6);
        t.board(8, 8);
        due(t.pieceCell(4, 0), 6);
        due(t.clear(), 0);
        due(t.pieceCell(0, 1), 1);
    }

    static void promise31() {
        Tilecount t = new Tilecount();
        throwing(t, BAD, () -> t.kind(true, true, 0));
        throwing(t, BAD, () -> t.kind(true, true, 9));
        throwing(t, STATE, () -> t.kind(true, true, 1));
        type(t, 5, 5, 4, 5);
        throwing(t, STATE, () -> t.kind(true, true, 1));
        throwing(t, BAD, () -> t.kind(true, true, -1));
        type(t, 3, 4);
        throwing(t, CANT, () -> t.kind(true, true, 1));
        due(t.pieceCell(4, 4), 4);
        due(t.kind(false, false, 8), 1);
        due(t.pieceCell(0, 0), 1);
        t.clear();
        int[] long3 = {0, 2, 1, 2, 2, 2};
        type(t, long3);
        due(t.kind(true, true, 1), 2);
        type(t, 3, 0, 3, 1, 3, 2);
        throwing(t, CANT, () -> t.kind(false, false, 1));
        t.clear();
        int[] ell = {0, 0, 1, 0, 2, 0, 3, 0, 0, 1};
        type(t, ell);
        due(t.kind(false, false, 1), 1);
        type(t, ell);
        throwing(t, CANT, () -> t.kind(true, false, 1));
        t.clear();
        type(t, ell);
        due(t.kind(false, true, 1), 2);
        type(t, 0, 0, 1, 0, 2, 0, 3, 0, 3, 1);
        throwing(t, CANT, () -> t.kind(false, false, 1));
        t.clear();
        type(t, ell);
        due(t.kind(true, false, 1), 4);
        type(t, 0, 0, 1, 0, 2, 0, 3, 0, 3, 1);
        due(t.kind(true, false, 1), 4);
        t.clear();
        type(t, ell);
        due(t.kind(true, true, 1), 8);
        t.clear();
        type(t, 2, 2, 3, 2, 2, 3, 3, 3);
        due(t.kind(true, true, 1), 1);
        sixKinds(t);
        type(t, 0, 0, 1, 0, 2, 0, 3, 0, 4, 0, 5, 0);
        throwing(t, STATE, () -> t.kind(true, true, 1));
        throwing(t, BAD, () -> t.kind(true, true, 9));
    }

    private static void sixKinds(Tilecount t) {
        t.clear();
        int[][] six = {{0, 0, 1, 0, 2, 0}, {0, 0, 1, 0, 0, 1}, {0, 0, 1, 0, 2, 0, 3, 0}, {0, 0, 1, 0, 0, 1, 1, 1},
            {0, 0, 1, 0, 2, 0, 1, 1}, {0, 0, 1, 0, 1, 1, 2, 1}};
        for (int[] cells : six) {
            type(t, cells);
            t.kind(true, true, 2);
        }
    }

    static void promise32() {
        Tilecount t = new Tilecount();
        due(t.clear(), 0);
        type(t, 0, 0, 1, 0);
        due(t.clear(), 0);
        due(t.pieceCell(2, 0), 1);
        sixKinds(t);
        due(t.clear(), 6);
        due(t.clear(), 0);
        t.board(3, 1);
        due(t.exact(), 0);
        due(t.checksum(), sumOf(3, 1, 0, 1, 1, 1, 0));
    }

    static void promise33() {
        Tilecount t = of(3, 3);
        due(t.exact(), 0);
        type(t, 0, 0, 1, 0, 2, 0);
        t.kind(true, false, 3);
        due(t.exact(), 2);
        t.clear();
        type(t, 0, 0, 1, 0, 2, 0);
        t.kind(true, false, 2);
        due(t.exact(), 0);
        type(t, 0, 0, 1, 0, 0, 1);
        t.kind(true, false, 2);
        due(t.exact(), 8);
        due(t.cut(0, 0), 8);
        due(t.exact(), 0);
        t.board(5, 5);
        throwing(t, CANT, t::exact);
        t.cut(0, 0);
        t.exact();
        t.board(8, 8);
        throwing(t, CANT, t::exact);
        Tilecount u = rolled(6, 1);
        type(u, 0, 0, 1, 0, 2, 0);
        u.kind(false, false, 2);
        due(u.exact(), 3);
        u.clear();
        type(u, 0, 0, 1, 0, 2, 0, 3, 0, 4, 0, 5, 0);
        u.kind(false, false, 2);
        due(u.exact(), 1);
        Tilecount v = rolled(4, 1);
        type(v, 0, 0, 1, 0, 2, 0, 3, 0, 4, 0, 5, 0);
        v.kind(true, true, 8);
        due(v.exact(), 0);
        v.board(4, 2);
        v.roll(true);
        due(v.exact(), 0);
        type(v, 0, 0, 1, 0, 2, 0, 3, 0);
        v.kind(false, false, 8);
        due(v.exact(), 1);
        Tilecount big = of(6, 4);
        type(big, 0, 0, 1, 0, 0, 1);
        big.kind(true, true, 8);
        due(big.exact(), 18);
        Tilecount empty = new Tilecount();
        due(empty.exact(), 1);
        sixKinds(empty);
        due(empty.exact(), 1);
    }

    static void promise34() {
        Tilecount t = of(3, 3);
        type(t, 0, 0, 1, 0, 2, 0);
        t.kind(true, false, 3);
        due(t.unlike(), 1);
        t.clear();
        type(t, 0, 0, 1, 0, 2, 0);
        t.kind(false, false, 3);
        due(t.unlike(), 1);
        Tilecount u = of(2, 3);
        type(u, 0, 0, 1, 0, 0, 1);
        u.kind(true, false, 2);
        due(u.exact(), 2);
        due(u.unlike(), 1);
        Tilecount v = of(6, 1);
        type(v, 0, 0, 1, 0, 2, 0);
        v.kind(true, true, 1);
        type(v, 0, 0, 1, 0, 2, 0, 3, 0);
        v.kind(true, true, 1);
        v.board(7, 1);
        due(v.exact(), 2);
        due(v.unlike(), 1);
        v.board(8, 1);
        v.cut(3, 0);
        due(v.exact(), 1);
        due(v.unlike(), 1);
        v.board(4, 2);
        v.cut(3, 1);
        v.roll(true);
        throwing(v, CANT, v::unlike);
        v.board(5, 5);
        throwing(v, CANT, v::unlike);
        due(new Tilecount().unlike(), 1);
        due(of(1, 1).unlike(), 0);
        Tilecount square = of(6, 6);
        for (int i = 0; i < 36; i++) {
            if (i % 6 == 0 || i % 6 == 5 || i < 6 || i >= 30) {
                square.cut(i % 6, i / 6);
            }
        }
        type(square, 0, 0, 1, 0, 2, 0, 3, 0);
        square.kind(true, false, 8);
        due(square.exact(), 2);
        due(square.unlike(), 1);
        square.board(6, 5);
        for (int i = 0; i < 30; i++) {
            if (i % 6 == 0 || i % 6 == 5 || i < 6) {
                square.cut(i % 6, i / 6);
            }
        }
        due(square.exact(), 2);
        due(square.unlike(), 2);
        Tilecount one = of(3, 2);
        type(one, 0, 0, 1, 0, 0, 1);
        one.kind(false, false, 2);
        type(one, 0, 1, 1, 1, 1, 0);
        one.kind(false, false, 2);
        due(one.exact(), 1);
        due(one.unlike(), 1);
    }

    static void promise35() {
        Tilecount t = of(7, 1);
        throwing(t, NONE, () -> t.kindAt(0, 0, 0));
        type(t, 0, 0, 1, 0, 2, 0, 3, 0);
        t.kind(false, false, 1);
        type(t, 0, 0, 1, 0, 2, 0);
        t.kind(false, false, 1);
        due(t.kindAt(0, 0, 0), 0);
        due(t.kindAt(0, 3, 0), 0);
        due(t.kindAt(0, 4, 0), 1);
        due(t.kindAt(1, 0, 0), 1);
        due(t.kindAt(1, 3, 0), 0);
        throwing(t, NONE, () -> t.kindAt(2, 0, 0));
        throwing(t, NONE, () -> t.kindAt(-1, 9, 9));
        throwing(t, NONE, () -> t.kindAt(Integer.MAX_VALUE, 0, 0));
        throwing(t, INDEX, () -> t.kindAt(1, 7, 0));
        throwing(t, INDEX, () -> t.kindAt(1, 0, -1));
        t.board(5, 5);
        throwing(t, CANT, () -> t.kindAt(0, 0, 0));
        throwing(t, CANT, () -> t.kindAt(-1, 9, 9));
        Tilecount empty = new Tilecount();
        throwing(empty, INDEX, () -> empty.kindAt(0, 0, 0));
        throwing(empty, NONE, () -> empty.kindAt(1, 0, 0));
        Tilecount u = of(2, 3);
        type(u, 0, 0, 1, 0, 0, 1);
        u.kind(true, false, 1);
        due(u.exact(), 0);
        type(u, 0, 0, 0, 1, 0, 2);
        u.kind(false, false, 2);
        due(u.exact(), 1);
        due(u.kindAt(0, 1, 2), 1);
    }

    static void promise36() {
        Tilecount t = new Tilecount();
        for (int width = 1; width <= 6; width++) {
            BigInteger[] terms = Reckoned.strips(width, 300);
            for (int length = 0; length <= 300; length += length < 20 || length > 290 ? 1 : 17) {
                due(text(t, t.strip(width, length)), terms[length].toString());
            }
            int w = width;
            throwing(t, BAD, () -> t.strip(w, 301));
            throwing(t, BAD, () -> t.strip(w, -1));
        }
        throwing(t, BAD, () -> t.strip(0, 5));
        throwing(t, BAD, () -> t.strip(7, 5));
        throwing(t, BAD, () -> t.strip(Integer.MIN_VALUE, Integer.MAX_VALUE));
        due(text(t, t.strip(6, 8)), "167089");
        due(text(t, t.strip(1, 299)), "0");
    }

    static void promise37() {
        Tilecount t = new Tilecount();
        for (int width = 1; width <= 6; width++) {
            due(t.order(width), leastOrder(Reckoned.strips(width, 60)));
        }
        throwing(t, BAD, () -> t.order(0));
        throwing(t, BAD, () -> t.order(7));
        throwing(t, BAD, () -> t.order(-1));
    }

    /** The least order by the rank of the table of the terms n and m on, over the remainders of a prime. */
    private static int leastOrder(BigInteger[] terms) {
        long prime = 1000000007L;
        int size = 25;
        long[][] table = new long[size][size];
        for (int i = 0; i < size; i++) {
            for (int j = 0; j < size; j++) {
                table[i][j] = terms[i + j].mod(BigInteger.valueOf(prime)).longValue();
            }
        }
        int rank = 0;
        for (int column = 0; column < size; column++) {
            int pivot = rank;
            while (pivot < size && table[pivot][column] == 0) {
                pivot++;
            }
            if (pivot == size) {
                continue;
            }
            long[] held = table[pivot];
            table[pivot] = table[rank];
            table[rank] = held;
            long inverse = BigInteger.valueOf(held[column]).modInverse(BigInteger.valueOf(prime)).longValue();
            for (int row = rank + 1; row < size; row++) {
                long factor = table[row][column] * inverse % prime;
                for (int i = 0; i < size; i++) {
                    table[row][i] = Math.floorMod(table[row][i] - factor * held[i] % prime, prime);
                }
            }
            rank++;
        }
        return rank;
    }

    static void promise38() {
        Tilecount t = new Tilecount();
        for (int width = 1; width <= 6; width++) {
            BigInteger[] terms = Reckoned.strips(width, 60);
            int order = t.order(width);
            BigInteger[] factors = new BigInteger[order + 1];
            for (int i = 1; i <= order; i++) {
                factors[i] = new BigInteger(text(t, t.rule(width, i)));
            }
            for (int n = order; n <= 60; n++) {
                BigInteger sum = BigInteger.ZERO;
                for (int i = 1; i <= order; i++) {
                    sum = sum.add(factors[i].multiply(terms[n - i]));
                }
                due(sum, terms[n]);
            }
            int w = width;
            throwing(t, INDEX, () -> t.rule(w, order + 1));
            throwing(t, INDEX, () -> t.rule(w, 0));
            throwing(t, INDEX, () -> t.rule(w, -1));
            throwing(t, INDEX, () -> t.rule(w, Integer.MAX_VALUE));
        }
        throwing(t, BAD, () -> t.rule(0, 1));
        throwing(t, BAD, () -> t.rule(7, 1));
        throwing(t, BAD, () -> t.rule(7, 99));
        due(t.rule(5, 4), 3);
        due(text(t, 3), "-32");
        due(t.rule(1, 1), 1);
        due(text(t, 1), "0");
    }

    static void promise39() {
        Tilecount t = new Tilecount();
        for (int i = 0; i < 512; i++) {
            if (i % 64 == 0) {
                t.clear();
            }
            Tilecount u = i % 64 == 0 ? new Tilecount() : t;
            int a = i / 64 + 1;
            int b = i / 8 % 8 + 1;
            int c = i % 8 + 1;
            due(text(u, u.hexagon(a, b, c)), Reckoned.boxes(a, b, c));
        }
        wrongSides(t, true);
    }

    private static void wrongSides(Tilecount t, boolean isHexagon) {
        for (int bad : new int[] {0, 9, -1, Integer.MAX_VALUE, Integer.MIN_VALUE}) {
            if (isHexagon) {
                throwing(t, BAD, () -> t.hexagon(bad, 1, 1));
                throwing(t, BAD, () -> t.hexagon(1, bad, 1));
                throwing(t, BAD, () -> t.hexagon(1, 1, bad));
            } else {
                throwing(t, BAD, () -> t.heaps(bad, 1, 1));
                throwing(t, BAD, () -> t.heaps(1, bad, 1));
                throwing(t, BAD, () -> t.heaps(1, 1, bad));
            }
        }
    }

    static void promise40() {
        Tilecount t = new Tilecount();
        for (int i = 0; i < 512; i++) {
            int a = i / 64 + 1;
            int b = i / 8 % 8 + 1;
            int c = i % 8 + 1;
            due(text(t, t.heaps(a, b, c)), Reckoned.boxes(a, b, c));
        }
        due(text(t, t.heaps(2, 2, 2)), "20");
        due(text(t, t.heaps(1, 1, 1)), "2");
        due(text(t, t.heaps(3, 3, 3)), "980");
        wrongSides(t, false);
    }

    static void promise41() {
        Tilecount t = of(8, 8);
        int[] full = {1, 64, 1568, 18816, 117600, 376320, 564480, 322560, 40320};
        for (int k = 0; k <= 8; k++) {
            due(text(t, t.rooks(k)), String.valueOf(full[k]));
        }
        throwing(t, BAD, () -> t.rooks(-1));
        throwing(t, BAD, () -> t.rooks(9));
        t.roll(true);
        due(text(t, t.rooks(8)), "40320");
        Tilecount u = of(3, 2);
        due(text(u, u.rooks(3)), "0");
        due(text(u, u.rooks(2)), "6");
        u.cut(1, 0);
        due(text(u, u.rooks(2)), "4");
        u.cut(0, 0);
        u.cut(2, 0);
        due(text(u, u.rooks(2)), "0");
        due(text(u, u.rooks(1)), "3");
        Tilecount empty = new Tilecount();
        due(text(empty, empty.rooks(0)), "1");
        due(text(empty, empty.rooks(1)), "0");
        Tilecount stairs = form('s', 8);
        due(text(stairs, stairs.rooks(8)), "1");
    }

    static void promise42() {
        due(of(8, 8).mostRooks(), 8);
        due(of(3, 8).mostRooks(), 3);
        due(of(8, 2).mostRooks(), 2);
        due(new Tilecount().mostRooks(), 0);
        due(form('o', 8).mostRooks(), 4);
        due(form('a', 4).mostRooks(), 8);
        Tilecount t = of(4, 1);
        t.cut(1, 0);
        due(t.mostRooks(), 1);
    }

    static void promise43() {
        int[] four = {0, 1, 2, 6, 14, 37, 92, 236};
        for (int w = 1; w <= 8; w++) {
            Tilecount t = of(w, 4);
            due(text(t, t.loops()), String.valueOf(four[w - 1]));
        }
        Tilecount t = of(6, 6);
        due(text(t, t.loops()), "1072");
        due(loops(of(2, 2)), "1");
        due(loops(of(5, 5)), "0");
        due(loops(of(2, 1)), "0");
        due(loops(of(1, 1)), "0");
        due(loops(new Tilecount()), "0");
        due(loops(form('o', 8)), "1");
        due(loops(form('s', 8)), "0");
        Tilecount two = of(5, 2);
        two.cut(2, 0);
        two.cut(2, 1);
        due(loops(two), "0");
        Tilecount big = of(8, 5);
        throwing(big, CANT, big::loops);
        for (int i = 0; i < 4; i++) {
            throwing(big, CANT, big::loops);
            big.cut(7 - i, 4);
        }
        due(big.cells('a'), 36);
        big.loops();
        Tilecount round = rolled(4, 2);
        throwing(round, CANT, round::loops);
        round.roll(false);
        due(loops(round), "1");
    }

    private static String loops(Tilecount t) {
        return text(t, t.loops());
    }

    static void promise44() {
        Tilecount t = of(2, 3);
        due(t.share(0, 0, true), 2f / 3f);
        due(t.share(0, 1, true), 1f / 3f);
        due(t.share(0, 0, false), 1f / 3f);
        throwing(t, INDEX, () -> t.share(1, 0, true));
        throwing(t, INDEX, () -> t.share(0, 2, false));
        throwing(t, INDEX, () -> t.share(-1, 0, true));
        Tilecount none = of(3, 3);
        throwing(none, SUM, () -> none.share(0, 0, true));
        throwing(none, INDEX, () -> none.share(2, 0, true));
        Tilecount full = of(8, 8);
        due(full.share(0, 0, true), 0.5f);
        long before = full.checksum();
        due(full.share(3, 3, false), shareOf(full, 3, 3, false));
        Tilecount round = rolled(6, 3);
        due(round.share(5, 1, true), shareOf(round, 5, 1, true));
        Tilecount fresh = of(8, 8);
        fresh.share(1, 1, true);
        due(fresh.checksum(), before);
    }

    private static float shareOf(Tilecount t, int x, int y, boolean isAcross) {
        long some = Long.parseLong(text(t, t.having(x, y, isAcross)));
        return (float) some / (float) Long.parseLong(text(t, t.covers()));
    }

    static void promise45() {
        Tilecount t = of(5, 2);
        due(t.meanPart(), 10.0);
        t.cut(2, 0);
        t.cut(2, 1);
        due(t.meanPart(), 4.0);
        t.cut(3, 0);
        t.cut(4, 1);
        due(t.meanPart(), 2.0);
        t.cut(4, 0);
        due(t.meanPart(), 5.0 / 2.0);
        Tilecount u = of(3, 3);
        u.cut(1, 0);
        u.cut(0, 1);
        due(u.meanPart(), 7.0 / 2.0);
        u.cut(2, 1);
        due(u.meanPart(), 6.0 / 3.0);
        throwing(new Tilecount(), SUM, () -> new Tilecount().meanPart());
        Tilecount v = of(1, 1);
        v.cut(0, 0);
        throwing(v, SUM, v::meanPart);
    }

    static void promise46() {
        Tilecount t = of(2, 2);
        due(t.checksum(), sumOf(2, 2, 0, 1, 1, 1, 1, 0));
        t.cut(1, 0);
        t.covers();
        due(t.checksum(), sumOf(2, 2, 0, 1, 0, 1, 1, 0, '0'));
        t.fill(1, 0);
        t.draw(1);
        due(t.checksum(), sumOf(2, 2, 0, 1, 1, 1, 1, 's', 's', 'n', 'n', 0, '0'));
        type(t, 0, 0, 1, 0, 2, 0);
        due(t.checksum(), sumOf(2, 2, 0, 1, 1, 1, 1, 's', 's', 'n', 'n', 0, '0'));
        t.kind(true, true, 5);
        t.rule(3, 4);
        due(t.checksum(), sumOf(2, 2, 0, 1, 1, 1, 1, 's', 's', 'n', 'n', 1, 2, 5, '-', '1'));
        t.undo();
        due(t.checksum(), sumOf(2, 2, 0, 1, 1, 1, 1, 1, 2, 5, '-', '1'));
        Tilecount u = rolled(4, 1);
        u.draw(1);
        due(u.checksum(), sumOf(4, 1, 1, 1, 1, 1, 1, 'w', 'e', 'w', 'e', 0));
    }

    static void promise47() {
        due(new Tilecount().isSound(), true);
        Tilecount[] some = {of(8, 8), rolled(8, 8), form('a', 4), form('o', 8), form('s', 8), form('c', 8), of(3, 3),
            rolled(6, 4), of(1, 1)};
        for (Tilecount t : some) {
            due(t.isSound(), true);
            sixKinds(t);
            t.covers();
            try {
                t.draw(4711);
                t.keep();
                t.next();
            } catch (NoSuchElementException e) {
                t.free();
            }
            type(t, 0, 0, 1, 0);
            long before = t.checksum();
            due(t.isSound(), true);
            due(t.checksum(), before);
            due(t.pieceCell(1, 0), 2);
        }
        Tilecount t = of(4, 4);
        t.draw(35);
        t.keep();
        t.previous();
        t.isSound();
        due(text(t, t.number()), "34");
        due(t.apart() > 0, true);
        due(t.undo(), 1);
        due(t.apart(), 0);
    }
}
