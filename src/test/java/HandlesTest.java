/** Promises 21 to 25, and 37: HANDLES, READING, THE TRACE. */
public final class HandlesTest {
    private static void making() {
        QueryHandles x = new QueryHandles();
        int a = x.cls(8, true);
        int b = x.cls(a, false);
        int f = x.face();
        int g = x.face();
        x.under(f, g);
        x.under(a, f);
        Check.due("no field", x.handle(b, 0, false), -17);
        Check.due("no method", x.handle(b, 0, true), -17);
        Check.due("ANY, field", x.handle(8, 0, false), -17);
        Check.due("ANY, method", x.handle(8, 0, true), -17);
        Check.due("a face", x.handle(f, 0, true), -1);
        Check.due("no name", x.handle(b, 10, true), -1);
        Check.due("name -1", x.handle(b, -1, false), -1);
        Check.due("no class", x.handle(44, 0, false), -1);
        x.field(a, 0, 4, false);
        Check.due("a field is no method", x.handle(b, 0, true), -17);
        Check.due("a field from above", x.handle(b, 0, false), 0);
        x.method(g, 1, 0, 0);
        Check.due("no body is enough, of a face of a face above", x.handle(b, 1, true), 1);
        Check.due("a method is no field", x.handle(b, 1, false), -17);
        x.field(b, 0, 7, false);
        x.thing(b);
        Check.due("a handle keeps the field that was seen", x.set(0, 0, 70000), 1);
        Check.due("as it was", x.get(0, 0), 70000);
        Check.due("its lane", x.lane(), 4);
        for (int n = 2; n < 40; n++) {
            Check.due("handle " + n, x.handle(b, 0, false), n);
        }
        Check.due("one more", x.handle(b, 0, false), -2);
        Check.due("one more, lacking", x.handle(b, 5, false), -2);
        Check.due("one more, bad", x.handle(b, 10, false), -1);
        Check.due("told(2)", x.told(2), 40);
        Check.lost("no body", x, x.get(1, 0), -17);
    }

    private static void fields() {
        QueryHandles x = new QueryHandles();
        int a = x.cls(8, false);
        int b = x.cls(a, false);
        x.field(a, 0, 3, false);
        x.field(b, 0, b, false);
        x.field(a, 1, x.row(4), true);
        x.field(a, 2, 6, true);
        int inA = x.handle(a, 0, false);
        int inB = x.handle(b, 0, false);
        int row = x.handle(b, 1, false);
        int sharedFloat = x.handle(a, 2, false);
        int aThing = x.thing(a);
        int bThing = x.thing(b);
        int ints = x.things(4, 1);
        Check.due("lane() before", x.lane(), -1);
        Check.due("hidden field, first", x.get(inA, bThing), 0);
        Check.due("lane()", x.lane(), 3);
        Check.due("set hidden", x.set(inA, bThing, -1), 1);
        Check.due("get hidden", x.get(inA, bThing), 65535);
        Check.due("of another thing", x.get(inA, aThing), 0);
        Check.due("hiding", x.get(inB, bThing), -1);
        Check.due("lane() of none", x.lane(), 8);
        Check.due("set itself", x.set(inB, bThing, bThing), 1);
        Check.due("get itself", x.get(inB, bThing), bThing);
        Check.due("set another", x.set(inB, bThing, aThing), -14);
        Check.due("set no thing", x.set(inB, bThing, 60), -14);
        Check.lost("cast", x, x.get(inB, aThing), -13);
        Check.lost("cast of a row", x, x.get(inA, ints), -13);
        Check.due("set cast", x.set(inB, aThing, 60), -13);
        Check.due("set null", x.set(inB, -1, 60), -11);
        Check.lost("null", x, x.get(inB, -1), -11);
        Check.due("lane() stays", x.lane(), 8);
        Check.lost("no thing", x, x.get(inB, 3), -1);
        Check.lost("no thing, shared", x, x.get(row, -2), -1);
        Check.lost("no handle", x, x.get(4, aThing), -1);
        Check.lost("handle -1", x, x.get(-1, aThing), -1);
        Check.due("set no thing", x.set(row, 3, 0), -1);
        Check.due("set no handle", x.set(4, aThing, 0), -1);
        Check.due("shared, none", x.set(row, -1, ints), 1);
        Check.due("shared, of a row", x.get(row, ints), ints);
        Check.due("shared, wrong", x.set(row, -1, aThing), -14);
        Check.due("shared float", x.set(sharedFloat, ints, 0xffffffffL), 1);
        Check.due("no number", x.get(sharedFloat, -1), 0x7fc00000L);
        Check.due("lane() of a float", x.lane(), 6);
        Check.due("as a double", x.getAs(sharedFloat, -1, 7), 0x7ff8000000000000L);
        Check.due("lane() is of get() alone", x.lane(), 6);
        Check.lost("a float as a long", x, x.getAs(sharedFloat, -1, 5), -16);
        Check.lost("a row as an int", x, x.getAs(row, -1, 4), -16);
        Check.lost("none as an int", x, x.getAs(inB, x.thing(b), 4), -16);
        Check.lost("lane 8", x, x.getAs(row, -1, 8), -1);
        Check.lost("lane -1", x, x.getAs(inA, bThing, -1), -1);
        Check.lost("getAs null", x, x.getAs(inA, -1, 4), -11);
        Check.lost("getAs cast", x, x.getAs(inA, ints, 4), -13);
        Check.due("char as a float", x.getAs(inA, bThing, 6), Float.floatToIntBits(65535f));
        Check.lost("char as a short", x, x.getAs(inA, bThing, 2), -16);
    }

    /** Names: 0 a field, 1 a number, 2 asks 0, 3 asks 0 and one, 5 a truth, 6 that and one, 7 3 and one. */
    private static void bodies() {
        QueryHandles x = new QueryHandles();
        int a = x.cls(8, false);
        int b = x.cls(a, false);
        int f = x.face();
        x.under(a, f);
        x.field(a, 0, 5, false);
        x.field(a, 1, 0, true);
        x.method(a, 0, 1, 0);
        x.method(a, 1, 4, -7);
        x.method(f, 2, 3, 0);
        x.method(f, 3, 5, 0);
        x.method(b, 3, 2, 0);
        x.method(a, 5, 1, 1);
        x.method(b, 6, 5, 5);
        x.method(b, 7, 5, 3);
        x.method(b, 8, 2, 0);
        x.method(b, 9, 3, 4);
        x.field(b, 0, 1, false);
        Check.due("of the field that hides", x.method(b, 0, 1, 5), 6);
        int aThing = x.thing(a);
        int bThing = x.thing(b);
        int field = x.handle(a, 0, false);
        x.set(field, aThing, Long.MAX_VALUE);
        int[] by = new int[8];
        for (int n = 0; n < 8; n++) {
            by[n] = x.handle(n < 6 ? a : b, n, true);
        }
        Check.due("nothing of that name", by[4], -17);
        Check.due("a field", x.get(by[0], aThing), Long.MAX_VALUE);
        Check.due("trace", x.trace(0), 100 * a + 2);
        Check.due("traced", x.told(4), 1);
        Check.due("a number", x.get(by[1], aThing), -7);
        Check.due("an int", x.lane(), 4);
        Check.due("asks", x.get(by[2], aThing), Long.MAX_VALUE);
        Check.due("trace 0", x.trace(0), 100 * f);
        Check.due("trace 1", x.trace(1), 100 * a + 2);
        Check.due("trace 2", x.trace(2), -1);
        Check.due("trace -1", x.trace(-1), -1);
        Check.due("one more wraps", x.get(by[3], aThing), Long.MIN_VALUE);
        Check.due("and is not refused", x.status(), 0);
        Check.due("a long", x.lane(), 5);
        Check.due("asks of the thing's own class", x.get(by[2], bThing), 0);
        Check.due("a byte", x.lane(), 1);
        Check.due("above, lent, and one", x.get(by[3], bThing), 1);
        Check.due("trace 0", x.trace(0), 100 * b);
        Check.due("trace 1", x.trace(1), 100 * f + 1);
        Check.due("trace 2", x.trace(2), 100 * b + 6);
        Check.due("as a float", x.getAs(by[3], bThing, 6), 0x3f800000L);
        Check.lost("a long as an int", x, x.getAs(by[3], bThing, 4), -16);
        Check.due("its trace", x.told(4), 3);
        Check.lost("a truth and one", x, x.get(by[6], bThing), -16);
        Check.due("its trace", x.told(4), 2);
        Check.due("one and one", x.get(by[7], bThing), 2);
        Check.lost("of a thing above", x, x.get(by[7], aThing), -13);
        Check.due("no trace", x.told(4), 0);
        x.get(by[7], bThing);
        Check.lost("bad", x, x.get(by[7], 40), -1);
        Check.lost("bad lane", x, x.getAs(by[7], bThing, 9), -1);
        Check.due("set of methods", x.set(by[7], -1, 0), -3);
        Check.due("set", x.set(field, aThing, 5), 1);
        Check.due("the trace stays", x.told(4), 4);
        Check.lost("null", x, x.get(by[7], -1), -11);
        Check.due("no trace", x.told(4), 0);
        Check.lost("above lacks", x, x.get(x.handle(b, 8, true), bThing), -17);
        Check.due("trace of one", x.trace(0), 100 * b + 3);
        Check.lost("asks what lacks", x, x.get(x.handle(b, 9, true), bThing), -17);
        Check.due("trace of one", x.told(4), 1);
    }

    /** A chain of k bodies: METHOD n asks n + 1, the last tells a number. */
    private static QueryHandles chain(int links, boolean endless) {
        QueryHandles x = new QueryHandles();
        int a = x.cls(8, false);
        int up = a;
        for (int n = 0; n < links - 1; n++) {
            up = x.cls(up, false);
        }
        // Each CLASS asks the one above it, so that a chain is longer than there are NAMES.
        for (int c = a; c <= up; c++) {
            x.method(c, 0, c > a ? 2 : endless ? 3 : 4, 0);
        }
        x.thing(up);
        x.handle(up, 0, true);
        return x;
    }

    private static void deep() {
        QueryHandles x = chain(12, false);
        Check.due("twelve", x.get(0, 0), 0);
        Check.due("traced", x.told(4), 12);
        x = chain(13, false);
        Check.lost("thirteen", x, x.get(0, 0), -18);
        Check.due("traced", x.told(4), 12);
        Check.due("last traced", x.trace(11), 1000);
        x = chain(1, true);
        Check.lost("endless", x, x.get(0, 0), -18);
        x = new QueryHandles();
        int a = x.cls(8, false);
        int up = a;
        for (int n = 0; n < 11; n++) {
            up = x.cls(up, false);
        }
        for (int c = a; c <= up; c++) {
            x.method(c, 0, 2, 0);
        }
        x.thing(up);
        x.handle(up, 0, true);
        Check.lost("twelve, and what would be next lacks", x, x.get(0, 0), -17);
    }

    private static void two() {
        QueryHandles x = new QueryHandles();
        int f = x.face();
        int g = x.face();
        int a = x.cls(8, false);
        x.under(a, f);
        x.method(f, 0, 4, 1);
        x.method(g, 0, 4, 2);
        int b = x.cls(a, false);
        x.under(b, g);
        int h = x.handle(a, 0, true);
        int aThing = x.thing(a);
        int bThing = x.thing(b);
        Check.due("one", x.get(h, aThing), 1);
        Check.lost("two", x, x.get(h, bThing), -19);
        Check.lost("two as a lane", x, x.getAs(h, bThing, 5), -19);
        Check.due("no trace", x.told(4), 0);
    }

    public static void main(String[] args) {
        making();
        fields();
        bodies();
        deep();
        two();
        Check.end("HandlesTest");
    }
}
