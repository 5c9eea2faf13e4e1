import java.util.Random;

/** Floats and doubles, which QueryHandles reckons with as longs, held against the machine's own. */
public final class FloatsTest {
    private static final Random CHANCE = new Random(20261118);
    private static final double[] EDGES = {
        0.0, -0.0, Double.MIN_VALUE, -Double.MIN_VALUE, Double.MIN_NORMAL, -Double.MIN_NORMAL,
        Double.MAX_VALUE, -Double.MAX_VALUE, Double.POSITIVE_INFINITY, Double.NEGATIVE_INFINITY, Double.NaN,
        1.0, -1.0, 0x1p53, 0x1p53 + 2, 0x1p-53, 0x1.8p-53, 0x1.000001p-53, 0x1p970, 0x1.fffffffffffffp969,
        Math.nextDown(1.0), Math.nextUp(1.0), Math.nextDown(Double.MIN_NORMAL), 0.1, 0.2, 0x1p-1022, 0x1p-1021};

    private static double someDouble() {
        switch (CHANCE.nextInt(5)) {
            case 0: return EDGES[CHANCE.nextInt(EDGES.length)];
            case 1: return Double.longBitsToDouble(CHANCE.nextLong());
            case 2: return (double) (CHANCE.nextLong() >> CHANCE.nextInt(64));
            case 3: return Double.longBitsToDouble((CHANCE.nextLong() & 0x800fffffffffffffL)
                | (long) (1000 + CHANCE.nextInt(60)) << 52 | 1L << CHANCE.nextInt(52));
            default: return Double.longBitsToDouble(CHANCE.nextLong() & 0x803fffffffffffffL);
        }
    }

    /** Near to another one, so that little is left of their sum. */
    private static double near(double d) {
        long bits = Double.doubleToRawLongBits(d);
        double other = Double.longBitsToDouble(bits + CHANCE.nextInt(9) - 4);
        return CHANCE.nextInt(4) == 0 ? other * 0.5 : -other;
    }

    private static long someLong() {
        long v = CHANCE.nextLong() >> CHANCE.nextInt(64);
        if (CHANCE.nextInt(2) == 0) {
            int top = CHANCE.nextInt(63);
            v = (1L << top) + (CHANCE.nextInt(5) - 2) + (1L << CHANCE.nextInt(top + 1))
                + (CHANCE.nextBoolean() ? 1L << Math.max(top - 24, 0) : 1L << Math.max(top - 53, 0));
        }
        return CHANCE.nextInt(2) == 0 ? v : -v;
    }

    private static void longs(long v) {
        QueryHandles x = new QueryHandles();
        int floats = x.things(6, 1);
        int doubles = x.things(7, 1);
        int own = x.things(5, 1);
        x.write(own, 0, v);
        x.writeAs(floats, 0, 5, v);
        x.writeAs(doubles, 0, 5, v);
        Check.due(v + " as a float", x.read(floats, 0), Float.floatToIntBits((float) v));
        Check.due(v + " as a double", x.read(doubles, 0), Double.doubleToLongBits((double) v));
        Check.due(v + " read as a float", x.readAs(own, 0, 6), Float.floatToIntBits((float) v));
        Check.due(v + " read as a double", x.readAs(own, 0, 7), Double.doubleToLongBits((double) v));
        int i = (int) v;
        x.writeAs(floats, 0, 4, v);
        x.writeAs(doubles, 0, 4, v);
        Check.due(i + " as a float", x.read(floats, 0), Float.floatToIntBits((float) i));
        Check.due(i + " as a double", x.read(doubles, 0), Double.doubleToLongBits((double) i));
    }

    private static void floats(int bits) {
        QueryHandles x = new QueryHandles();
        int floats = x.things(6, 1);
        x.write(floats, 0, bits);
        float f = Float.intBitsToFloat(bits);
        Check.due("float " + f, x.read(floats, 0), Float.floatToIntBits(f));
        Check.due("float " + f + " as a double", x.readAs(floats, 0, 7), Double.doubleToLongBits((double) f));
    }

    private static void sum(double[] parts) {
        QueryHandles x = new QueryHandles();
        int c = x.cls(8, false);
        x.field(c, 0, 7, false);
        x.handle(c, 0, false);
        double due = 0.0;
        for (double d : parts) {
            x.set(0, x.thing(c), Double.doubleToRawLongBits(d));
            if (!Double.isNaN(d) && !Double.isInfinite(d)) {
                due += d;
            }
        }
        x.column(0, 7, parts.length);
        x.fill(0, 0);
        Check.due("sum of " + java.util.Arrays.toString(parts), x.sum(0), Double.doubleToLongBits(due));
    }

    private static void compared(double d, long v) {
        QueryHandles x = new QueryHandles();
        int c = x.cls(8, false);
        x.field(c, 0, 7, false);
        x.handle(c, 0, false);
        x.set(0, x.thing(c), Double.doubleToRawLongBits(d));
        boolean[] due = {d < v, d <= v, d == v, d != v, d >= v, d > v};
        for (int op = 0; op < 6; op++) {
            int q = x.query();
            x.test(q, 0, op, v, false);
            Check.due(d + " op " + op + " " + v, x.run(q, 0, 1), due[op] ? 1 : 0);
        }
    }

    public static void main(String[] args) {
        int runs = args.length > 0 ? Integer.parseInt(args[0]) : 60000;
        longs(Long.MIN_VALUE);
        longs(Long.MAX_VALUE);
        longs(0);
        for (int i = 0; i < 64; i++) {
            longs(1L << i);
            longs((1L << i) - 1);
        }
        for (double d : EDGES) {
            floats(Float.floatToRawIntBits((float) d));
            for (double e : EDGES) {
                sum(new double[] {d, e});
                sum(new double[] {d, e, near(d)});
            }
        }
        for (int n = 0; n < runs && Check.allAsDue(); n++) {
            longs(someLong());
            floats(CHANCE.nextInt());
            floats(CHANCE.nextInt() & 0x80ffffff);
            double d = someDouble();
            sum(new double[] {d, someDouble(), someDouble()});
            sum(new double[] {d, near(d), someDouble(), near(d)});
            long v = someLong();
            compared(CHANCE.nextBoolean() ? d : (double) v, v);
            compared(Math.nextUp((double) v), v);
        }
        Check.end("FloatsTest");
    }
}
