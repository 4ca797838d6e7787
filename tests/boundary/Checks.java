import java.util.NoSuchElementException;

/** What the tests of boundaries share: boards, readings of an object, and what is due. */
abstract class Checks {

    static final Class<?> BAD = IllegalArgumentException.class;
    static final Class<?> STATE = IllegalStateException.class;
    static final Class<?> INDEX = IndexOutOfBoundsException.class;
    static final Class<?> NONE = NoSuchElementException.class;
    static final Class<?> CANT = UnsupportedOperationException.class;
    static final Class<?> SUM = ArithmeticException.class;

    private static final int[] FAR = {Integer.MIN_VALUE, Integer.MIN_VALUE + 1, -256, -64, -8, 64, 256, 65536,
        Integer.MAX_VALUE - 1, Integer.MAX_VALUE};

    private static int made = 0;
    private static int wrong = 0;
    private static String test = "";

    interface Start {
        Tilecount make();
    }

    interface Call {
        Object on(Tilecount t);
    }

    interface NumberCall {
        Object on(Tilecount t, int number);
    }

    static void begin(String name) {
        test = name;
    }

    static int made() {
        return made;
    }

    static int wrong() {
        return wrong;
    }

    static void fail(String what) {
        wrong++;
        System.out.println(test + ": " + what);
    }

    static void due(Object got, Object want) {
        made++;
        if (!want.equals(got)) {
            fail(place() + "answered " + got + ", due is " + want);
        }
    }

    private static String place() {
        for (StackTraceElement at : new Throwable().getStackTrace()) {
            if (!at.getClassName().startsWith("Checks")) {
                return "line " + at.getLineNumber() + ": ";
            }
        }
        return "";
    }

    /** What a call answers, or the name of what it throws. */
    static Object outcome(Tilecount t, Call call) {
        try {
            return call.on(t);
        } catch (RuntimeException e) {
            return e.getClass().getSimpleName();
        }
    }

    /** Each call is refused by the exception, and whoever saw the refusal tells all as one that did not. */
    static void refused(Class<?> want, Start start, Call... calls) {
        String twin = portrait(start.make());
        for (Call call : calls) {
            Tilecount t = start.make();
            due(outcome(t, call), want.getSimpleName());
            due(portrait(t), twin);
        }
    }

    /** Whoever saw the call answer tells all as one that did not. */
    static void unchanged(Start start, Call call) {
        Tilecount t = start.make();
        due(outcome(t, call), true);
        due(portrait(t), portrait(start.make()));
    }

    /** All numbers from the least to the most are taken, those beside and far from them are refused. */
    static void range(Class<?> want, Start start, int least, int most, NumberCall call) {
        for (int number = least; number <= most; number++) {
            int taken = number;
            Object answer = outcome(start.make(), t -> call.on(t, taken));
            due(number + (answer instanceof String ? " is refused" : " is taken"), number + " is taken");
        }
        beyond(want, start, least, most, call);
    }

    static void beyond(Class<?> want, Start start, int least, int most, NumberCall call) {
        refused(want, start, t -> call.on(t, least - 1), t -> call.on(t, most + 1));
        for (int number : FAR) {
            if (number < least || number > most) {
                refused(want, start, t -> call.on(t, number));
            }
        }
    }

    static Tilecount of(int w, int h) {
        Tilecount t = new Tilecount();
        t.board(w, h);
        return t;
    }

    static Tilecount rolled(int w, int h) {
        Tilecount t = of(w, h);
        t.roll(true);
        return t;
    }

    static Tilecount form(char kind, int n) {
        Tilecount t = new Tilecount();
        t.form(kind, n);
        return t;
    }

    /** A board with cells where the rows have '#'. */
    static Tilecount picture(String... rows) {
        Tilecount t = of(rows[0].length(), rows.length);
        for (int y = 0; y < rows.length; y++) {
            for (int x = 0; x < rows[y].length(); x++) {
                if (rows[y].charAt(x) != '#') {
                    t.cut(x, y);
                }
            }
        }
        return t;
    }

    static Tilecount rolledPicture(String... rows) {
        Tilecount t = picture(rows);
        t.roll(true);
        return t;
    }

    /** A board without any cell. */
    static Tilecount bare(int w, int h) {
        Tilecount t = of(w, h);
        for (int i = 0; i < w * h; i++) {
            t.cut(i % w, i / w);
        }
        return t;
    }

    /** Gives an object kinds, typed cells and a text, so that there is more to lose. */
    static Tilecount laden(Tilecount t) {
        kind(t, false, false, 2, "###");
        kind(t, true, true, 3, "##", "#.");
        type(t, "#.#");
        t.rule(3, 4);
        return t;
    }

    /** Gives it a cover, a kept one and steps to undo, too. */
    static Tilecount busy(Tilecount t) {
        laden(t);
        t.draw(0);
        t.keep();
        t.next();
        t.next();
        return t;
    }

    static void type(Tilecount t, String... rows) {
        for (int y = 0; y < rows.length; y++) {
            for (int x = 0; x < rows[y].length(); x++) {
                if (rows[y].charAt(x) == '#') {
                    t.pieceCell(x, y);
                }
            }
        }
    }

    static int kind(Tilecount t, boolean isTurned, boolean isMirrored, int many, String... rows) {
        type(t, rows);
        return t.kind(isTurned, isMirrored, many);
    }

    /** Six kinds of which no shape is another's. */
    static void sixKinds(Tilecount t) {
        kind(t, true, true, 2, "###");
        kind(t, true, true, 2, "##", "#.");
        kind(t, true, true, 2, "####");
        kind(t, true, true, 2, "##", "##");
        kind(t, true, true, 2, "###", ".#.");
        kind(t, true, true, 2, "##.", ".##");
    }

    /** The signs of the text, read until there is no more. */
    static String text(Tilecount t) {
        StringBuilder signs = new StringBuilder();
        for (int i = 0; i < 400; i++) {
            int place = i;
            Object sign = outcome(t, u -> u.signAt(place));
            if (sign instanceof String) {
                return signs.toString();
            }
            signs.append(sign);
        }
        return signs + " without an end";
    }

    /** The text, behind a call that tells how many signs it has. */
    static String text(Tilecount t, int signs) {
        String text = text(t);
        due(signs, text.length());
        return text;
    }

    /** What other() tells of all cells by rows, '.' where the board has none. */
    static String codes(Tilecount t, int w, int h) {
        StringBuilder codes = new StringBuilder();
        for (int y = 0; y < h; y++) {
            for (int x = 0; x < w; x++) {
                codes.append(t.has(x, y) ? t.other(x, y) : '.');
            }
        }
        return codes.toString();
    }

    /** An object on which the cover with these codes has been drawn, by one step; the others are looked for elsewhere. */
    static Tilecount drawAs(Start start, int w, int h, String codes) {
        Tilecount counted = start.make();
        long many = Long.parseLong(text(counted, counted.covers()));
        for (long i = 0; i < many && i < 40; i++) {
            Tilecount t = start.make();
            t.draw(i);
            if (codes(t, w, h).equals(codes)) {
                return t;
            }
        }
        fail("no cover " + codes);
        return start.make();
    }

    static long sumOf(long... items) {
        long sum = 7;
        for (long item : items) {
            sum = 31 * sum + item;
        }
        return sum;
    }

    /** All that an object can tell of what it holds; it is used up by that. */
    private static String portrait(Tilecount t) {
        StringBuilder told = new StringBuilder();
        told.append(t.checksum()).append(' ').append(text(t)).append(' ').append(outcome(t, Tilecount::apart));
        for (int i = 0; i < 36; i++) {
            int cell = i;
            told.append(' ').append(outcome(t, u -> u.pieceCell(cell % 6, cell / 6)));
        }
        Object left = outcome(t, Tilecount::undo);
        for (int i = 0; i < 12 && left instanceof Integer; i++) {
            told.append(" undo ").append(left).append(' ').append(t.checksum()).append(' ')
                .append(outcome(t, Tilecount::apart));
            left = outcome(t, Tilecount::undo);
        }
        told.append(" then ").append(outcome(t, u -> u.draw(0))).append(' ').append(outcome(t, Tilecount::apart));
        t.board(4, 3);
        told.append(" exact ").append(t.exact()).append(' ').append(t.unlike());
        for (int i = 0; i < 12; i++) {
            int cell = i;
            told.append(' ').append(outcome(t, u -> u.kindAt(0, cell % 4, cell / 4)));
        }
        t.roll(true);
        return told.append(' ').append(t.exact()).append(" kinds ").append(t.clear()).toString();
    }
}
