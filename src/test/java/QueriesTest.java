/** Promises 31 to 36: QUERIES. */
public final class QueriesTest {
    private static void making() {
        QueryHandles x = new QueryHandles();
        int c = x.cls(8, false);
        x.field(c, 0, 4, false);
        int h = x.handle(c, 0, false);
        Check.due("test of no query", x.test(0, h, 0, 0, false), -1);
        for (int n = 0; n < 20; n++) {
            Check.due("query " + n, x.query(), n);
        }
        Check.due("one more", x.query(), -2);
        Check.due("told(3)", x.told(3), 20);
        Check.due("op 6", x.test(0, h, 6, 0, false), -1);
        Check.due("op -1", x.test(0, h, -1, 0, false), -1);
        Check.due("no handle", x.test(0, 1, 0, 0, false), -1);
        Check.due("query 20", x.test(20, h, 0, 0, false), -1);
        Check.due("query -1", x.test(-1, h, 0, 0, false), -1);
        Check.due("no tests", x.run(0, 0, 60), -3);
        Check.due("no tests, bad", x.run(0, 60, 60), -1);
        for (int n = 1; n <= 8; n++) {
            Check.due("test " + n, x.test(0, h, 2, 0, false), n);
        }
        Check.due("ninth", x.test(0, h, 2, 0, false), -2);
        Check.due("ninth, bad", x.test(0, h, 9, 0, false), -1);
        Check.due("another", x.test(19, h, 2, 0, true), 1);
        Check.due("run of no query", x.run(20, 0, 0), -1);
        Check.due("first -1", x.run(0, -1, 0), -1);
        Check.due("first 60", x.run(0, 60, 0), -1);
        Check.due("n -1", x.run(0, 0, -1), -1);
        Check.due("n 61", x.run(0, 0, 61), -1);
        Check.due("no things", x.run(0, 59, 60), 0);
        Check.due("no hit", x.hit(0), -1);
        Check.due("none failed", x.failed(), -1);
    }

    /** A CLASS of things with the field 0 of a LANE, holding those BITS; HANDLE 0, QUERY 0. */
    private static QueryHandles with(int lane, long... bits) {
        QueryHandles x = new QueryHandles();
        int c = x.cls(8, false);
        x.field(c, 0, lane, false);
        x.handle(c, 0, false);
        x.query();
        for (long b : bits) {
            x.set(0, x.thing(c), b);
        }
        return x;
    }

    private static void ops() {
        String[] due = {"0", "01", "1", "02", "12", "2"};
        for (int op = 0; op < 6; op++) {
            compare(5, op, new long[] {-1, 0, 1}, 0, due[op]);
            compare(1, op, new long[] {-128, 5, 127}, 5, due[op]);
            compare(7, op, new long[] {d(-0.5), d(-0.0), d(0.5)}, 0, due[op]);
            compare(6, op, new long[] {0xff800000L, 0x40000000L, 0x7f800000L}, 2, due[op]);
            compare(7, op, new long[] {d(9.007199254740990E15), d(9.007199254740992E15),
                d(9.007199254740994E15)}, 9007199254740993L, due[op]);
            compare(7, op, new long[] {d(-1e300), Long.MIN_VALUE | d(0x1p63), d(-1e18)}, Long.MIN_VALUE, due[op]);
            compare(6, op, new long[] {0x7fc00000L}, 0, op == 3 ? "0" : "");
            compare(7, op, new long[] {0x7ff8000000000000L}, 1, op == 3 ? "0" : "");
        }
        compare(0, 2, new long[] {1, 0, 9}, 1, "02");
        compare(0, 5, new long[] {1, 0, 9}, 1, "");
    }

    private static long d(double v) {
        return Double.doubleToLongBits(v);
    }

    private static void compare(int lane, int op, long[] bits, long number, String due) {
        QueryHandles x = with(lane, bits);
        x.test(0, 0, op, number, false);
        String what = "lane " + lane + " op " + op + " of " + number;
        Check.due(what, x.run(0, 0, 60), due.length());
        for (int k = 0; k < due.length(); k++) {
            Check.due(what + ", hit " + k, x.hit(k), due.charAt(k) - '0');
        }
        Check.due("no more hits", x.hit(due.length()), -1);
        Check.due("hit -1", x.hit(-1), -1);
    }

    private static void joined() {
        QueryHandles x = with(4, 0, 1, 2, 3, 4, 5);
        x.test(0, 0, 2, 1, true);
        x.test(0, 0, 2, 3, true);
        x.test(0, 0, 0, 3, false);
        Check.due("(= 1 or = 3) and < 3", x.run(0, 0, 60), 1);
        Check.due("hit", x.hit(0), 1);
        x.test(0, 0, 2, 5, true);
        Check.due(".. or = 5", x.run(0, 0, 60), 2);
        Check.due("hit", x.hit(1), 5);
        Check.due("a block", x.run(0, 2, 3), 0);
        Check.due("the end of a block", x.run(0, 2, 4), 1);
        Check.due("past the end", x.run(0, 5, 60), 1);
        Check.due("told(5)", x.told(5), 1);
        Check.due("an empty block", x.run(0, 1, 0), 0);
        Check.due("told(5)", x.told(5), 0);
    }

    /** Names: 0 an int, 1 asks itself for ever, 2 lacks. */
    private static void findings() {
        QueryHandles x = new QueryHandles();
        int a = x.cls(8, true);
        int b = x.cls(a, false);
        int other = x.cls(8, false);
        x.field(a, 0, 4, false);
        x.field(other, 0, 4, false);
        x.method(a, 1, 3, 1);
        x.method(a, 2, 0, 0);
        x.method(a, 3, 1, 0);
        x.field(a, 4, 8, false);
        int number = x.handle(a, 0, false);
        int deep = x.handle(a, 1, true);
        int lacks = x.handle(a, 2, true);
        int body = x.handle(a, 3, true);
        int object = x.handle(a, 4, false);
        int another = x.handle(other, 0, false);
        for (int n = 0; n < 5; n++) {
            x.set(number, x.thing(n == 2 ? other : b), n);
        }
        int q = x.query();
        x.test(q, body, 0, 3, false);
        x.test(q, deep, 0, 0, true);
        Check.due("what holds is not read on", x.run(q, 0, 3), 2);
        Check.due("traced", x.told(4), 2);
        Check.due("no finding", x.failed(), -1);
        Check.due("deep", x.run(q, 1, 9), -18);
        Check.due("status()", x.status(), -18);
        Check.due("failed()", x.failed(), 3);
        Check.due("hits ahead stay", x.told(5), 1);
        Check.due("hit", x.hit(0), 1);
        Check.due("traced", x.told(4), 14);
        Check.due("bad", x.run(q, 60, 9), -1);
        Check.due("no tests", x.run(x.query(), 0, 9), -3);
        Check.due("failed() stays", x.failed(), 3);
        Check.due("hits stay", x.told(5), 1);
        Check.due("the trace stays", x.told(4), 14);
        Check.due("another run", x.run(q, 0, 1), 1);
        Check.due("failed() is gone", x.failed(), -1);
        int[] handles = {lacks, object, another};
        int[] due = {-17, -16, -13};
        for (int k = 0; k < handles.length; k++) {
            int r = x.query();
            x.test(r, number, 0, 3, false);
            x.test(r, handles[k], 0, 3, false);
            Check.due("finding " + due[k], x.run(r, 0, 9), due[k]);
            Check.due("failed()", x.failed(), 0);
            Check.due("what does not hold is not read on", x.run(r, 3, 9), 0);
        }
        int s = x.query();
        x.test(s, object, 3, 0, false);
        Check.due("a thing is not compared", x.run(s, 3, 9), -16);
        Check.due("failed()", x.failed(), 3);
    }

    private static void totals() {
        QueryHandles x = with(3, 7, 8, 9, 65535);
        Check.due("before a run", x.total(0), 0);
        Check.lost("no handle", x, x.total(1), -1);
        Check.lost("handle -1", x, x.total(-1), -1);
        x.test(0, 0, 4, 8, false);
        x.run(0, 0, 60);
        Check.due("sum of the hits", x.total(0), 8 + 9 + 65535);
        Check.due("a thing more", x.thing(9), 4);
        Check.due("the hits are the run's", x.total(0), 8 + 9 + 65535);
        Check.due("bad", x.run(1, 0, 0), -1);
        Check.due("the hits stay", x.total(0), 8 + 9 + 65535);
        QueryHandles y = new QueryHandles();
        int a = y.cls(8, false);
        int[] types = {0, 5, 6, 8};
        for (int n = 0; n < 4; n++) {
            y.field(a, n, types[n], false);
            y.handle(a, n, false);
        }
        int b = y.cls(a, false);
        y.field(b, 0, 4, false);
        int below = y.handle(b, 0, false);
        y.method(a, 0, 5, 1);
        y.method(a, 1, 1, 1);
        int method = y.handle(a, 0, true);
        for (int n = 0; n < 3; n++) {
            y.set(1, y.thing(n == 1 ? a : b), Long.MAX_VALUE);
            y.set(0, n, 1);
        }
        y.query();
        y.test(0, 0, 2, 1, false);
        Check.due("all", y.run(0, 0, 3), 3);
        Check.due("truths", y.total(0), 3);
        Check.due("longs wrap", y.total(1), 3 * Long.MAX_VALUE);
        Check.lost("floats", y, y.total(2), -16);
        Check.lost("things", y, y.total(3), -16);
        Check.lost("cast", y, y.total(below), -13);
        Check.due("failed() is of run() alone", y.failed(), -1);
        Check.due("methods", y.total(method), 3 * Long.MIN_VALUE);
        Check.due("traced", y.told(4), 6);
        Check.lost("bad", y, y.total(9), -1);
        Check.due("the trace stays", y.told(4), 6);
        Check.due("none", y.run(0, 9, 3), 0);
        Check.due("the trace is gone", y.told(4), 0);
        Check.due("no hits, whatever the lane", y.total(2), 0);
    }

    public static void main(String[] args) {
        making();
        ops();
        joined();
        findings();
        totals();
        Check.end("QueriesTest");
    }
}
