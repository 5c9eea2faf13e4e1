/** Promises 26 to 30: COLUMNS. */
public final class ColumnsTest {
    private static void making() {
        QueryHandles x = new QueryHandles();
        Check.due("column 6", x.column(6, 4, 1), -1);
        Check.due("column -1", x.column(-1, 4, 1), -1);
        Check.due("lane 8", x.column(0, 8, 1), -1);
        Check.due("lane -1", x.column(0, -1, 1), -1);
        Check.due("61 cells", x.column(0, 4, 61), -1);
        Check.due("-1 cells", x.column(0, 4, -1), -15);
        Check.lost("not there", x, x.cell(0, 0), -11);
        Check.lost("sum not there", x, x.sum(0), -11);
        Check.due("60 cells", x.column(0, 4, 60), 60);
        Check.due("no cells", x.column(5, 7, 0), 0);
        Check.due("cell 59", x.cell(0, 59), 0);
        Check.lost("cell 60", x, x.cell(0, 60), -12);
        Check.lost("cell -1", x, x.cell(0, -1), -12);
        Check.lost("cell 0 of none", x, x.cell(5, 0), -12);
        Check.lost("column 6, cell", x, x.cell(6, 0), -1);
        Check.lost("column -1, cell", x, x.cell(-1, 0), -1);
        Check.lost("sum of column 6", x, x.sum(6), -1);
        Check.due("sum of no doubles", x.sum(5), 0);
        Check.due("the old one stays", x.column(0, 5, -5), -15);
        Check.due("cell 59", x.cell(0, 59), 0);
        Check.due("a new one", x.column(0, 5, 1), 1);
        Check.lost("cell 59", x, x.cell(0, 59), -12);
    }

    private static void filling() {
        QueryHandles x = new QueryHandles();
        int a = x.cls(8, false);
        int b = x.cls(a, false);
        x.field(a, 0, 2, false);
        x.field(a, 1, 8, false);
        x.method(a, 2, 4, 9);
        x.method(b, 2, 1, x.field(b, 3, 5, false));
        x.field(b, 4, 4, true);
        int[] things = {x.thing(a), x.things(4, 1), x.thing(8), x.thing(b), x.thing(a)};
        int number = x.handle(a, 0, false);
        int object = x.handle(a, 1, false);
        int body = x.handle(a, 2, true);
        int shared = x.handle(b, 4, false);
        x.set(number, things[0], 3);
        x.set(number, things[3], -4);
        x.set(number, things[4], 70000);
        Check.due("no column", x.fill(0, number), -11);
        Check.due("bad column", x.fill(6, number), -1);
        Check.due("bad handle", x.fill(0, 4), -1);
        Check.due("filled() before", x.filled(), 0);
        x.column(0, 5, 4);
        Check.due("fill", x.fill(0, number), 3);
        Check.due("filled()", x.filled(), 3);
        Check.due("cell 0", x.cell(0, 0), 3);
        Check.due("cell 1", x.cell(0, 1), -4);
        Check.due("cell 2", x.cell(0, 2), 4464);
        Check.due("cell 3", x.cell(0, 3), 0);
        Check.due("sum", x.sum(0), 4463);
        Check.due("object", x.fill(0, object), -16);
        Check.due("filled()", x.filled(), 0);
        Check.due("cells stay", x.cell(0, 0), 3);
        x.column(1, 4, 3);
        Check.due("a long to an int", x.fill(1, body), -16);
        Check.due("the one ahead has come", x.filled(), 1);
        Check.due("the one ahead has come", x.cell(1, 0), 9);
        Check.due("its trace", x.told(4), 2);
        Check.due("no column", x.fill(2, body), -11);
        Check.due("filled() stays", x.filled(), 1);
        Check.due("the trace stays", x.told(4), 2);
        Check.due("bad", x.fill(1, 4), -1);
        Check.due("filled() stays", x.filled(), 1);
        Check.due("the trace stays", x.told(4), 2);
        x.column(2, 6, 1);
        Check.due("no cell is left", x.fill(2, number), -12);
        Check.due("one came", x.filled(), 1);
        Check.due("as a float", x.cell(2, 0), Float.floatToIntBits(3f));
        Check.due("no trace", x.told(4), 0);
        x.column(3, 0, 0);
        Check.due("INDEX ahead of KIND", x.fill(3, number), -12);
        Check.due("KIND of a thing ahead of INDEX", x.fill(3, object), -16);
        x.column(3, 4, 1);
        Check.due("shared, of its class alone", x.fill(3, shared), 1);
        x.column(3, 7, 3);
        Check.due("a double each", x.fill(3, body), 3);
        Check.due("9", x.cell(3, 0), Double.doubleToLongBits(9.0));
        Check.due("0", x.cell(3, 1), 0);
        Check.due("sum as a double", x.sum(3), Double.doubleToLongBits(18.0));
    }

    private static void findings() {
        QueryHandles x = new QueryHandles();
        int f = x.face();
        int g = x.face();
        x.method(f, 0, 4, 1);
        x.method(g, 0, 4, 1);
        int a = x.cls(8, true);
        x.under(a, f);
        int one = x.cls(a, false);
        int two = x.cls(a, false);
        x.under(two, g);
        int deep = x.cls(a, false);
        x.method(deep, 0, 3, 0);
        int h = x.handle(a, 0, true);
        x.thing(one);
        x.thing(two);
        x.column(0, 4, 5);
        Check.due("two", x.fill(0, h), -19);
        Check.due("one came", x.filled(), 1);
        x.column(1, 4, 0);
        Check.due("INDEX at the first", x.fill(1, h), -12);
        QueryHandles y = new QueryHandles();
        int c = y.cls(8, false);
        y.method(c, 0, 3, 0);
        y.handle(c, 0, true);
        for (int n = 0; n < 7; n++) {
            y.thing(c);
        }
        y.column(0, 4, 0);
        Check.due("DEEP ahead of INDEX", y.fill(0, 0), -18);
        Check.due("status()", y.status(), -18);
        QueryHandles z = new QueryHandles();
        int d = z.cls(8, false);
        for (int n = 0; n < 9; n++) {
            z.method(d, n, 3, n + 1);
        }
        z.method(d, 9, 4, 1);
        z.handle(d, 0, true);
        for (int n = 0; n < 7; n++) {
            z.thing(d);
        }
        z.column(0, 4, 60);
        Check.due("70 bodies", z.fill(0, 0), 7);
        Check.due("60 are kept", z.told(4), 60);
        Check.due("the last", z.trace(59), 100 * d + 9);
        Check.due("no more", z.trace(60), -1);
    }

    private static void sums() {
        long[][] parts = {
            {Double.doubleToLongBits(1e308), Double.doubleToLongBits(1e308), Double.doubleToLongBits(-1e308)},
            {Double.doubleToLongBits(0.1), Double.doubleToLongBits(0.2), Double.doubleToLongBits(0.3)},
            {Double.doubleToLongBits(-0.0), Double.doubleToLongBits(-0.0)},
            {Double.doubleToLongBits(1.5), Double.doubleToLongBits(-1.5), Double.doubleToLongBits(-0.0)},
            {Double.doubleToLongBits(Double.POSITIVE_INFINITY), Double.doubleToLongBits(2), -1},
            {Double.doubleToLongBits(Double.NEGATIVE_INFINITY)},
            {1, 1, Long.MIN_VALUE + 3}};
        long[] due = {Double.doubleToLongBits(Double.POSITIVE_INFINITY), Double.doubleToLongBits(0.1 + 0.2 + 0.3),
            0, 0, Double.doubleToLongBits(2), 0, Long.MIN_VALUE + 1};
        for (int n = 0; n < parts.length; n++) {
            Check.due("sum " + n, sumOf(7, parts[n]), due[n]);
        }
        Check.due("floats", sumOf(6, new long[] {0x7f7fffffL, 0x7f7fffffL, 0x7f800000L, 0x7fc00000L}),
            Double.doubleToLongBits(2.0 * Float.MAX_VALUE));
        Check.due("a long wraps", sumOf(5, new long[] {Long.MAX_VALUE, 2}), Long.MIN_VALUE + 1);
        Check.due("truths", sumOf(0, new long[] {5, 0, 7}), 2);
        Check.due("bytes", sumOf(1, new long[] {127, 127, 127}), 381);
    }

    /** What a column of that lane sums up to, filled by a field of it. */
    private static long sumOf(int lane, long[] bits) {
        QueryHandles x = new QueryHandles();
        int c = x.cls(8, false);
        x.field(c, 0, lane, false);
        x.handle(c, 0, false);
        for (int n = 0; n < bits.length; n++) {
            x.set(0, x.thing(c), bits[n]);
        }
        x.column(0, lane, 60);
        Check.due("fill", x.fill(0, 0), bits.length);
        return x.sum(0);
    }

    public static void main(String[] args) {
        making();
        filling();
        findings();
        sums();
        Check.end("ColumnsTest");
    }
}
