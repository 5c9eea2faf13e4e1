import java.util.ArrayList;
import java.util.List;
import java.util.function.Consumer;

/**
 * What the tests of single sentences have in common. Each names its promise and quotes the words of
 * the document that it tries; SentencesTest looks the words up there.
 */
abstract class Sentences {
    static final int NONE = -1, BAD = -1, FULL = -2, NO = -3;
    static final int NULL = -11, INDEX = -12, CAST = -13, STORE = -14, SIZE = -15, KIND = -16,
        LACKING = -17, DEEP = -18, TWO = -19;
    static final int TRUTH = 0, BYTE = 1, SHORT = 2, CHAR = 3, INT = 4, LONG = 5, FLOAT = 6, DOUBLE = 7, ANY = 8;
    static final int LEAST = Integer.MIN_VALUE, MOST = Integer.MAX_VALUE;
    static final long NO_FLOAT = 0x7fc00000L, NO_DOUBLE = 0x7ff8000000000000L;
    static final long ENDLESS_FLOAT = 0x7f800000L, ENDLESS_DOUBLE = 0x7ff0000000000000L;
    /** The sorts of a METHOD's BODY. */
    static final int TELLS_FIELD = 1, ABOVE = 2, ASKS = 3, TELLS_INT = 4, ASKS_AND_ONE = 5;
    static final int BELOW = 0, AT_MOST = 1, ALIKE = 2, UNLIKE = 3, AT_LEAST = 4, OVER = 5;

    record Quote(int promise, String words) { }

    static final List<Quote> QUOTES = new ArrayList<>();

    /** A test on a new object. */
    static void holds(int promise, String words, Consumer<QueryHandles> test) {
        QUOTES.add(new Quote(promise, words));
        Check.about("promise " + promise + ", \"" + words + "\": ");
        int before = Check.asked();
        test.accept(new QueryHandles());
        Check.that("something is asked", Check.asked() > before);
        Check.about("");
    }

    static void due(String what, long got, long want) {
        Check.due(what, got, want);
    }

    /** A call that answers an int is refused. */
    static void refused(QueryHandles x, String what, int got, int why) {
        due(what, got, why);
        due(what + ", status()", x.status(), why);
    }

    /** A call that answers a long is refused. */
    static void lost(QueryHandles x, String what, long got, int why) {
        due(what, got, Long.MIN_VALUE);
        due(what + ", status()", x.status(), why);
    }

    /** All that can be asked of an object in a few calls is the same behind the calls. */
    static void changesNothing(QueryHandles x, Runnable calls) {
        long[] before = view(x);
        calls.run();
        long[] after = view(x);
        for (int i = 0; i < before.length; i++) {
            due("number " + i + " of what stays", after[i], before[i]);
        }
    }

    private static long[] view(QueryHandles x) {
        long[] v = new long[14];
        for (int what = 0; what < 8; what++) {
            v[what] = x.told(what);
        }
        v[8] = x.lane();
        v[9] = x.filled();
        v[10] = x.failed();
        v[11] = x.hit(0);
        v[12] = x.trace(0);
        v[13] = x.digest();
        return v;
    }

    static long bits(double d) {
        return Double.doubleToLongBits(d);
    }

    static long bits(float f) {
        return Float.floatToIntBits(f);
    }

    /** FACES, until there are TYPES 9 .. 99. */
    static void makeAllTypes(QueryHandles x) {
        for (int n = x.told(0); n < 91; n++) {
            x.face();
        }
        due("all types are made", x.told(0), 91);
    }

    /** THINGS of ANY, until there are 60. */
    static void makeAllThings(QueryHandles x) {
        for (int n = x.told(1); n < 60; n++) {
            x.thing(ANY);
        }
        due("all things are made", x.told(1), 60);
    }

    /** A new CLASS below another, whose THINGS can be made. */
    static int below(QueryHandles x, int above) {
        return x.cls(above, false);
    }

    /** A new CLASS below ANY with one FIELD of the NAME 0. */
    static int withField(QueryHandles x, int type) {
        int c = x.cls(ANY, false);
        due("its field", x.field(c, 0, type, false), 0);
        return c;
    }

    /** A HANDLE of a FIELD. */
    static int ofField(QueryHandles x, int cls, int name) {
        return x.handle(cls, name, false);
    }

    /** A HANDLE of a NAME of METHODS. */
    static int ofMethods(QueryHandles x, int cls, int name) {
        return x.handle(cls, name, true);
    }
}
