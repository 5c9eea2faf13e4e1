/** Promises 13 to 20: THINGS and their items. */
public final class ThingsTest {
    private static final long NAN = 0x7ff8000000000000L;

    private static void making() {
        QueryHandles x = new QueryHandles();
        int a = x.cls(8, true);
        int b = x.cls(a, false);
        int f = x.face();
        x.field(a, 0, 4, false);
        x.field(a, 1, 4, true);
        x.field(b, 0, 8, false);
        x.field(b, 2, 7, false);
        Check.due("open", x.thing(a), -3);
        Check.due("a face", x.thing(f), -1);
        Check.due("a lane", x.thing(4), -1);
        Check.due("a row", x.thing(x.row(b)), -1);
        Check.due("none", x.thing(-1), -1);
        Check.due("nothing closed", x.told(6), 0);
        Check.due("a row of b", x.things(b, 12), 0);
        Check.due("a row closes nothing", x.told(6), 0);
        Check.due("a thing of b", x.thing(b), 1);
        Check.due("closed: a, b, ANY", x.told(6), 3);
        Check.due("places, hidden ones too, not shared", x.kind(1, 2), 3);
        Check.due("base", x.kind(1, 0), b);
        Check.due("depth", x.kind(1, 1), 0);
        Check.due("13 items", x.things(4, 13), -1);
        Check.due("no type", x.things(99, 1), -1);
        Check.due("-1 items", x.things(4, -1), -15);
        Check.due("fewest items", x.things(4, Integer.MIN_VALUE), -15);
        Check.due("no items", x.things(f, 0), 2);
        Check.due("kind what 3", x.kind(1, 3), -1);
        Check.due("kind what -1", x.kind(1, -1), -1);
        Check.due("kind of none, what 3", x.kind(-1, 3), -1);
        Check.due("kind of none", x.kind(-1, 2), -11);
        Check.due("kind of no thing", x.kind(3, 2), -1);
        Check.due("kind of -2", x.kind(-2, 2), -1);
        for (int n = 3; n < 60; n++) {
            Check.due("thing " + n, n % 2 == 0 ? x.thing(8) : x.things(1, n % 13), n);
        }
        Check.due("one more", x.thing(b), -2);
        Check.due("one more, open", x.thing(a), -2);
        Check.due("one more, bad", x.thing(f), -1);
        Check.due("one more row", x.things(4, 1), -2);
        Check.due("one more row of -1", x.things(4, -1), -2);
        Check.due("one more row of 13", x.things(4, 13), -1);
        Check.due("told(1)", x.told(1), 60);
    }

    private static void rowsOfThings() {
        QueryHandles x = new QueryHandles();
        int a = x.cls(8, false);
        int b = x.cls(a, false);
        int f = x.face();
        x.under(b, f);
        int bound = x.variable(a, x.row(b));
        int aThing = x.thing(a);
        int bThing = x.thing(b);
        int byVariable = x.things(bound, 2);
        int faces = x.things(f, 2);
        int anys = x.things(8, 3);
        int bs = x.things(b, 1);
        int ints = x.things(4, 2);
        Check.due("a row of a variable: base", x.kind(byVariable, 0), b);
        Check.due("a row of a variable: depth", x.kind(byVariable, 1), 2);
        Check.due("at first", x.read(faces, 0), -1);
        Check.due("of its face", x.write(faces, 0, bThing), 1);
        Check.due("read", x.read(faces, 0), bThing);
        Check.due("not of its face", x.write(faces, 0, aThing), -14);
        Check.due("the old one stays", x.read(faces, 0), bThing);
        Check.due("no thing", x.write(faces, 0, 60), -14);
        Check.due("-2", x.write(faces, 0, -2), -14);
        Check.due("a thing and 2^32", x.write(faces, 0, bThing + (1L << 32)), -14);
        Check.due("least", x.write(faces, 0, Long.MIN_VALUE), -14);
        Check.due("none", x.write(faces, 0, -1), 1);
        Check.due("a row of rows", x.write(byVariable, 1, bs), 1);
        Check.due("no row", x.write(byVariable, 1, bThing), -14);
        Check.due("another row", x.write(byVariable, 1, ints), -14);
        Check.due("any: a row of ints", x.write(anys, 0, ints), 1);
        Check.due("any: itself", x.write(anys, 1, anys), 1);
        Check.due("any: a thing", x.write(anys, 2, aThing), 1);
        Check.due("isA row of any", x.isA(bs, x.row(8)), 1);
        Check.due("ints are no row of any", x.isA(ints, x.row(8)), 0);
        Check.due("ints are any", x.isA(ints, 8), 1);
        Check.due("isA face", x.isA(bThing, f), 1);
        Check.due("isA not", x.isA(aThing, b), 0);
        Check.due("isA a variable, erased", x.isA(bs, bound), 1);
        Check.due("isA of none", x.isA(-1, f), -11);
        Check.due("isA of none, no type", x.isA(-1, 99), -1);
        Check.due("isA no thing", x.isA(40, f), -1);
        Check.due("isA no type", x.isA(bThing, 99), -1);
    }

    private static void reading() {
        QueryHandles x = new QueryHandles();
        int c = x.cls(8, false);
        int thing = x.thing(c);
        int longs = x.things(5, 3);
        Check.due("write", x.write(longs, 2, Long.MIN_VALUE), 1);
        Check.due("read what looks lost", x.read(longs, 2), Long.MIN_VALUE);
        Check.due("status()", x.status(), 0);
        Check.lost("read no thing", x, x.read(2, 0), -1);
        Check.lost("read thing -2", x, x.read(-2, 0), -1);
        Check.lost("read none", x, x.read(-1, 50), -11);
        Check.lost("read no row", x, x.read(thing, 50), -13);
        Check.lost("read 3", x, x.read(longs, 3), -12);
        Check.lost("read -1", x, x.read(longs, -1), -12);
        Check.due("write no thing", x.write(2, 0, 0), -1);
        Check.due("write none", x.write(-1, 0, 0), -11);
        Check.due("write no row", x.write(thing, 0, 0), -13);
        Check.due("write 3", x.write(longs, 3, 0), -12);
        Check.due("write least", x.write(longs, Integer.MIN_VALUE, 0), -12);
    }

    private static void bits() {
        long[][] due = {
            // lane, put, kept
            {0, 0, 0}, {0, 2, 1}, {0, Long.MIN_VALUE, 1}, {1, 128, -128}, {1, 0x1ff, -1}, {1, -129, 127},
            {2, 32768, -32768}, {2, 65535, -1}, {3, -1, 65535}, {3, 65536, 0}, {4, 1L << 31, Integer.MIN_VALUE},
            {4, -1L >>> 32, -1}, {5, Long.MIN_VALUE, Long.MIN_VALUE},
            {6, 0x80000000L, Integer.MIN_VALUE}, {6, 0x7f800000L, 0x7f800000L}, {6, 0xff800000L, (int) 0xff800000L},
            {6, 0x7f800001L, 0x7fc00000L}, {6, 0xffc00000L, 0x7fc00000L}, {6, -1, 0x7fc00000L},
            {6, 0x123456783f800000L, 0x3f800000L}, {7, Long.MIN_VALUE, Long.MIN_VALUE},
            {7, 0x7ff0000000000000L, 0x7ff0000000000000L}, {7, 0xfff0000000000000L, 0xfff0000000000000L},
            {7, 0x7ff0000000000001L, NAN}, {7, -1, NAN}};
        for (long[] d : due) {
            QueryHandles x = new QueryHandles();
            int row = x.things((int) d[0], 1);
            Check.due("at first", x.read(row, 0), 0);
            Check.due("write", x.write(row, 0, d[1]), 1);
            Check.due("lane " + d[0] + " of " + d[1], x.read(row, 0), d[2]);
            Check.due("writeAs", x.writeAs(row, 0, (int) d[0], d[1]), 1);
            Check.due("lane " + d[0] + " as itself of " + d[1], x.readAs(row, 0, (int) d[0]), d[2]);
        }
    }

    private static void widening() {
        String[] fine = {"0", "124567", "24567", "34567", "4567", "567", "67", "7"};
        for (int from = 0; from < 8; from++) {
            for (int to = 0; to < 8; to++) {
                boolean so = fine[from].indexOf((char) ('0' + to)) >= 0;
                QueryHandles x = new QueryHandles();
                int source = x.things(from, 2);
                int target = x.things(to, 2);
                x.write(source, 1, 1);
                String what = from + " to " + to;
                if (so) {
                    long one = from < 6 ? Model.widen(from, 1, to) : from == to ? 1 : 0x36a0000000000000L;
                    Check.due("readAs " + what, x.readAs(source, 1, to), one);
                    Check.due("writeAs " + what, x.writeAs(target, 0, from, 1), 1);
                    Check.due("read " + what, x.read(target, 0), one);
                } else {
                    Check.lost("readAs " + what, x, x.readAs(source, 1, to), -16);
                    Check.due("writeAs " + what, x.writeAs(target, 0, from, 1), -16);
                }
                Check.lost("readAs INDEX first " + what, x, x.readAs(source, 2, to), -12);
                Check.due("writeAs INDEX first " + what, x.writeAs(target, -1, from, 1), -12);
            }
        }
    }

    private static void refusals() {
        QueryHandles x = new QueryHandles();
        int thing = x.thing(8);
        int rows = x.things(x.row(4), 2);
        int ints = x.things(4, 2);
        Check.lost("lane 8", x, x.readAs(ints, 0, 8), -1);
        Check.lost("lane -1", x, x.readAs(ints, 0, -1), -1);
        Check.lost("none, lane 8", x, x.readAs(-1, 0, 8), -1);
        Check.lost("no thing", x, x.readAs(9, 0, 4), -1);
        Check.lost("none", x, x.readAs(-1, 0, 4), -11);
        Check.lost("no row", x, x.readAs(thing, 0, 4), -16);
        Check.lost("rows of rows", x, x.readAs(rows, 9, 4), -16);
        Check.due("writeAs lane 8", x.writeAs(ints, 0, 8, 1), -1);
        Check.due("writeAs no thing", x.writeAs(-2, 0, 4, 1), -1);
        Check.due("writeAs none", x.writeAs(-1, 0, 4, 1), -11);
        Check.due("writeAs no row", x.writeAs(thing, 0, 4, 1), -16);
        Check.due("writeAs rows of rows", x.writeAs(rows, 0, 4, 1), -16);
        Check.due("fits its lane first", x.writeAs(ints, 0, 1, 255), 1);
        Check.due("and is widened then", x.read(ints, 0), -1);
        Check.due("what is no truth", x.writeAs(ints, 0, 0, 1), -16);
        Check.due("the old one stays", x.read(ints, 0), -1);
    }

    public static void main(String[] args) {
        making();
        rowsOfThings();
        reading();
        bits();
        widening();
        refusals();
        Check.end("ThingsTest");
    }
}
