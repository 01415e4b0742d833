import java.util.NoSuchElementException;
import java.util.concurrent.Callable;

/**
 * What the tests of the edges share. A wrong answer is told with its line; the remark beside that line
 * has the number of the promise, or the paragraph, and the sentence that is broken.
 */
abstract class Edges {
    static final int NONE = MilkDays.NONE;
    static final int LOWEST = Integer.MIN_VALUE;
    static final int HIGHEST = Integer.MAX_VALUE;

    static final Class<IndexOutOfBoundsException> NO_SUCH = IndexOutOfBoundsException.class;
    static final Class<IllegalArgumentException> NO_NUMBER = IllegalArgumentException.class;
    static final Class<IllegalStateException> CANNOT = IllegalStateException.class;
    static final Class<NoSuchElementException> NO_WHAT = NoSuchElementException.class;
    static final Class<UnsupportedOperationException> FULL = UnsupportedOperationException.class;

    // What step() and count() have numbers for.
    static final int CORNER = 0, KIND = 1, CREDIT = 2, FRESH = 3, OLD = 4, EMPTY = 5, DRY = 6, NOTE = 7, DOG = 8;
    static final int PECKS = 9, BREAKS = 10, SOURS = 11, SHARE = 12, OUTER = 13, PLACE = 14;
    static final int STEPS = 0, TEXTS = 1, LINES = 2, DAY = 3, CHARGE = 4, CRATES = 5, PRICE = 6, BIRDS = 7;
    static final int FROST = 8, ROADS = 9, ALL_FRESH = 10, ALL_OLD = 11, ROWS = 12, UNDOABLE = 13;

    private static final Check check = new Check();

    static void due(Object got, Object want) {
        check.same(line(), got, want);
    }

    static void fails(Class<? extends Exception> want, Callable<?> call) {
        check.fails(line(), want, call);
    }

    static void done(String test) {
        check.end(test);
    }

    /** The line of the test itself, which main calls, also where helpers stand between. */
    private static String line() {
        return StackWalker.getInstance().walk(frames -> frames
            .takeWhile(f -> !f.getMethodName().equals("main"))
            .reduce((first, second) -> second)
            .map(f -> f.getFileName() + ":" + f.getLineNumber()).orElse("?"));
    }

    static MilkDays suburb(String... texts) {
        return Check.suburb(texts);
    }

    static MilkDays put(MilkDays x, String text) {
        return Check.put(x, text);
    }

    static MilkDays law(MilkDays x, String text) {
        return Check.law(x, text);
    }

    /** The TAPE has these bytes alone. */
    static MilkDays told(MilkDays x, int... bytes) {
        StringBuilder text = new StringBuilder();
        for (int b : bytes) text.append((char) b);
        return Check.put(x, text.toString());
    }

    /** STEPS without CREDIT at these CORNERS. */
    static String steps(int... corners) {
        StringBuilder b = new StringBuilder();
        for (int corner : corners) b.append(b.length() > 0 ? ";" : "").append("step at ").append(corner).append(" credit 0");
        return b.toString();
    }

    /** A chain of so many ROADS from CORNER 0 on, each 9 long. */
    static String chain(int roads) {
        StringBuilder b = new StringBuilder();
        for (int i = 0; i < roads; i++) {
            b.append(i > 0 ? ";road " : "road ").append(i).append(' ').append(i + 1).append(" long 9");
        }
        return b.toString();
    }

    /** One LINE as often as this. */
    static String times(int n, String line) {
        return line + (";" + line).repeat(n - 1);
    }

    /** FRESH, OLD, EMPTY and DRY of a STEP, as one number: 1 02 03 04. */
    static int bottles(MilkDays x, int step) {
        return ((x.step(step, FRESH) * 100 + x.step(step, OLD)) * 100 + x.step(step, EMPTY)) * 100 + x.step(step, DRY);
    }

    /** All that is, but for the TAPE, fault() and what can be UNDONE: for a suburb of few STEPS. */
    static String all(MilkDays x) {
        StringBuilder b = new StringBuilder();
        for (int what = 0; what < UNDOABLE; what++) b.append(x.count(what)).append(' ');
        for (int step = 0; step < x.count(STEPS); step++) {
            b.append("| ").append(x.round(step)).append(' ');
            for (int what = 0; what <= 14; what++) b.append(x.step(step, what)).append(' ');
        }
        for (int what = 0; what <= 3; what++) b.append("| ").append(x.log(0, what)).append(' ');
        b.append("| ").append(x.far(0, 1)).append(' ').append(x.road(0, 1));
        int seed = x.seed(0);
        x.seed(seed);
        return b.append(" | ").append(seed).toString();
    }

    /** The call throws, and nothing is changed by it. */
    static void refused(MilkDays x, Class<? extends Exception> want, Callable<?> call) {
        String was = x.count(UNDOABLE) + " " + all(x);
        check.fails(line(), want, call);
        check.same(line(), x.count(UNDOABLE) + " " + all(x), was);
    }
}
