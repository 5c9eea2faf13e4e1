/** Promises 37 to 40: told(), status(), digest(); THE TRACE is tried in HandlesTest. */
public final class ToldTest {
    private static void told() {
        QueryHandles x = new QueryHandles();
        int c = x.cls(8, true);
        int d = x.cls(c, false);
        int f = x.face();
        x.row(d);
        x.variable(d, d);
        x.method(d, 0, 4, 6);
        x.handle(d, 0, true);
        x.query();
        x.query();
        x.things(4, 1);
        x.thing(d);
        x.test(0, 0, 4, 0, false);
        x.run(0, 0, 60);
        int[] due = {5, 2, 1, 2, 1, 1, 3, 2};
        for (int what = 0; what < 8; what++) {
            Check.due("told(" + what + ")", x.told(what), due[what]);
        }
        Check.due("told(8)", x.told(8), -1);
        Check.due("told(-1)", x.told(-1), -1);
        Check.due("told() is not told of", x.status(), 0);
        Check.due("f is not closed", x.method(f, 0, 0, 0), 0);
        QueryHandles y = new QueryHandles();
        y.thing(8);
        Check.due("ANY is closed", y.told(6), 1);
        y.thing(8);
        Check.due("once", y.told(6), 1);
        Check.due("ANY is not counted as made", y.told(7), 0);
    }

    private static void status() {
        QueryHandles x = new QueryHandles();
        x.cls(0, false);
        Check.due("status()", x.status(), -1);
        x.told(99);
        x.told(0);
        x.lane();
        x.filled();
        x.hit(0);
        x.failed();
        x.trace(0);
        Check.due("status() again", x.status(), -1);
        x.digest();
        Check.due("digest() is never refused", x.status(), 0);
        x.cell(0, 0);
        Check.due("status()", x.status(), -11);
        x.is(8, 8);
        Check.due("status()", x.status(), 0);
        x.hit(0);
        Check.due("hit() is not told of", x.status(), 0);
    }

    private static void digest() {
        QueryHandles x = new QueryHandles();
        int a = x.cls(8, false);
        int b = x.cls(a, false);
        x.field(b, 0, 4, true);
        x.field(a, 0, 4, false);
        x.field(a, 1, 8, true);
        x.method(b, 0, 4, 0);
        x.field(b, 1, 8, false);
        x.field(a, 2, 5, false);
        x.field(b, 2, 4, false);
        x.field(a, 3, 4, true);
        Check.due("shared places alone", x.digest(), of(-1, 0, 0));
        int thing = x.thing(b);
        x.things(4, 2);
        x.write(1, 1, 77);
        x.things(a, 1);
        x.write(2, 0, thing);
        x.set(x.handle(a, 0, false), 0, 5);
        x.set(x.handle(a, 2, false), 0, 6);
        x.set(x.handle(b, 2, false), 0, 7);
        x.set(x.handle(b, 0, false), -1, 8);
        x.set(x.handle(b, 3, false), -1, 9);
        x.set(x.handle(b, 1, false), 0, 2);
        long[] soFar = {b, 0, 2, 7, 5, 6, 4, 1, 0, 77, a, 1, 0, -1, 9, 8};
        Check.due("things, then shared places", x.digest(), of(soFar));
        x.column(4, 6, 0);
        x.column(1, 7, 3);
        x.fill(1, 0);
        x.column(5, 2, -1);
        long[] all = java.util.Arrays.copyOf(soFar, soFar.length + 5);
        all[soFar.length] = 7;
        all[soFar.length + 1] = Double.doubleToLongBits(5.0);
        all[soFar.length + 4] = 6;
        Check.due("then columns", x.digest(), of(all));
        Check.due("told twice", x.digest(), of(all));
    }

    private static long of(long... numbers) {
        long h = 17;
        for (long n : numbers) {
            h = 31 * h + n;
        }
        return h;
    }

    public static void main(String[] args) {
        told();
        status();
        digest();
        Check.end("ToldTest");
    }
}
