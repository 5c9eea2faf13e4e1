/** Promises 26 to 30, sentence by sentence. */
final class ColumnSentences extends Sentences {
    private ColumnSentences() { }

    static void all() {
        column();
        fill();
        fillFinds();
        fillOrder();
        filled();
        cell();
        sum();
        sumOfDoubles();
    }

    private static void column() {
        holds(26, "COLUMN k is a new one of a LANE with n cells: n", x -> {
            due("made", x.column(3, INT, 2), 2);
            due("status()", x.status(), 0);
            int c = withField(x, INT);
            int h = ofField(x, c, 0);
            x.set(h, x.thing(c), 7);
            x.fill(3, h);
            due("a cell of the old one", x.cell(3, 0), 7);
            due("made anew", x.column(3, INT, 2), 2);
            due("a cell of the new one", x.cell(3, 0), 0);
            due("another lane, another length", x.column(3, LONG, 1), 1);
            lost(x, "the length is the new one's", x.cell(3, 1), INDEX);
        });
        holds(26, "COLUMNS 0 .. 5 (none at first) are of a LANE and have 0 to 60 cells, 0 at first", x -> {
            for (int k = 0; k <= 5; k++) {
                lost(x, "none at first", x.cell(k, 0), NULL);
                due("made", x.column(k, k + 2, 60), 60);
                due("the first cell", x.cell(k, 0), 0);
                due("the last cell", x.cell(k, 59), 0);
                lost(x, "no more", x.cell(k, 60), INDEX);
                due("without cells", x.column(k, k, 0), 0);
                lost(x, "not one", x.cell(k, 0), INDEX);
            }
        });
        holds(26, "BAD: k", x -> changesNothing(x, () -> {
            for (int k : new int[] {-1, 6, LEAST, MOST}) {
                refused(x, "column " + k, x.column(k, INT, 1), BAD);
                refused(x, "BAD ahead of SIZE", x.column(k, INT, -1), BAD);
            }
        }));
        holds(26, "LANE", x -> changesNothing(x, () -> {
            for (int lane : new int[] {-1, ANY, 9, LEAST, MOST}) {
                refused(x, "lane " + lane, x.column(0, lane, 1), BAD);
                refused(x, "BAD ahead of SIZE", x.column(0, lane, -1), BAD);
            }
        }));
        holds(26, "n above 60", x -> {
            x.column(0, INT, 60);
            changesNothing(x, () -> {
                refused(x, "61", x.column(0, INT, 61), BAD);
                refused(x, "most", x.column(0, INT, MOST), BAD);
            });
            due("the old one stays", x.cell(0, 59), 0);
        });
        holds(26, "SIZE (the old one stays)", x -> {
            int c = withField(x, INT);
            int h = ofField(x, c, 0);
            x.set(h, x.thing(c), 7);
            x.column(0, INT, 1);
            x.fill(0, h);
            changesNothing(x, () -> {
                refused(x, "-1", x.column(0, LONG, -1), SIZE);
                refused(x, "least", x.column(0, LONG, LEAST), SIZE);
                refused(x, "where there was none", x.column(1, LONG, -1), SIZE);
            });
            due("the old one", x.cell(0, 0), 7);
            lost(x, "there is still none", x.cell(1, 0), NULL);
        });
    }

    private static void fill() {
        holds(27, "For each THING that IS the HANDLE's CLASS, in order: it is READ, WIDENED to the LANE,"
            + " into the cells from 0 on: how many", x -> {
            int a = withField(x, BYTE);
            int b = below(x, a);
            int c = below(x, b);
            int[] classes = {c, a, b, ANY, b};
            for (int n = 0; n < 5; n++) {
                x.things(b, 1);
                x.thing(classes[n]);
                x.set(x.handle(a, 0, false), 2 * n + 1, n + 1);
            }
            x.column(0, DOUBLE, 4);
            due("three are of b", x.fill(0, ofField(x, b, 0)), 3);
            due("status()", x.status(), 0);
            long[] due = {bits(1.0), bits(3.0), bits(5.0), 0};
            for (int i = 0; i < 4; i++) {
                due("cell " + i, x.cell(0, i), due[i]);
            }
            x.column(1, BYTE, 4);
            due("none are of a class without things", x.fill(1, ofField(x, below(x, b), 0)), 0);
            due("status()", x.status(), 0);
            due("a shared field's or not: of its class alone", x.fill(1, ofField(x, c, 0)), 1);
        });
        holds(27, "BAD", x -> {
            int c = withField(x, INT);
            int h = ofField(x, c, 0);
            x.thing(c);
            x.column(0, INT, 1);
            x.fill(0, h);
            changesNothing(x, () -> {
                for (int k : new int[] {-1, 6, LEAST, MOST}) {
                    refused(x, "column " + k, x.fill(k, h), BAD);
                }
                for (int none : new int[] {-1, h + 1, 40, LEAST, MOST}) {
                    refused(x, "handle " + none, x.fill(0, none), BAD);
                    refused(x, "BAD ahead of NULL", x.fill(1, none), BAD);
                }
            });
        });
        holds(27, "NULL", x -> {
            int h = ofField(x, withField(x, ANY), 0);
            for (int k = 0; k <= 5; k++) {
                refused(x, "column " + k, x.fill(k, h), NULL);
            }
            x.thing(9);
            refused(x, "NULL ahead of KIND", x.fill(0, h), NULL);
        });
    }

    private static void fillFinds() {
        holds(27, "of each: the FINDINGS of READING", x -> {
            int f = x.face();
            int g = x.face();
            int a = x.cls(ANY, true);
            x.under(a, f);
            x.method(f, 0, TELLS_INT, 5);
            x.method(g, 0, TELLS_INT, 6);
            x.method(a, 1, TELLS_INT, 1);
            x.method(a, 2, TELLS_INT, 2);
            x.method(a, 3, TELLS_INT, 2);
            x.field(a, 9, TRUTH, true);
            x.method(a, 9, TELLS_FIELD, 3);
            int b = below(x, a);
            int c = below(x, a);
            x.under(c, g);
            int d = x.cls(a, true);
            x.method(d, 1, 0, 0);
            int e = below(x, d);
            x.method(e, 2, ASKS, 2);
            x.method(e, 3, ASKS_AND_ONE, 9);
            for (int cls : new int[] {b, c, e}) {
                x.thing(cls);
            }
            x.column(0, INT, 60);
            int[] due = {TWO, LACKING, DEEP, KIND};
            int[] came = {1, 2, 2, 2};
            for (int name = 0; name < 4; name++) {
                refused(x, "method " + name, x.fill(0, ofMethods(x, a, name)), due[name]);
                due("how many came", x.filled(), came[name]);
            }
        });
        holds(27, "KIND: a THING, NONE", x -> {
            int c = withField(x, ANY);
            int h = ofField(x, c, 0);
            int t = x.thing(c);
            for (int lane = TRUTH; lane <= 5; lane++) {
                x.column(lane, lane, 1);
                refused(x, "NONE", x.fill(lane, h), KIND);
            }
            x.set(h, t, t);
            refused(x, "a thing", x.fill(LONG, h), KIND);
            due("no cell came", x.cell(LONG, 0), 0);
        });
        holds(27, "INDEX: no cell is left", x -> {
            int c = withField(x, INT);
            int h = ofField(x, c, 0);
            for (int n = 0; n < 3; n++) {
                x.set(h, x.thing(c), n + 1);
            }
            x.column(0, INT, 3);
            due("as many cells as things", x.fill(0, h), 3);
            x.column(0, INT, 2);
            refused(x, "one less", x.fill(0, h), INDEX);
            due("two came", x.filled(), 2);
            x.column(0, INT, 0);
            refused(x, "none at all", x.fill(0, h), INDEX);
            due("none came", x.filled(), 0);
            due("none is needed", x.fill(0, ofField(x, withField(x, INT), 0)), 0);
        });
        holds(27, "KIND.", x -> {
            int c = withField(x, INT);
            int h = ofField(x, c, 0);
            x.thing(c);
            for (int lane : new int[] {TRUTH, BYTE, SHORT, CHAR}) {
                x.column(0, lane, 1);
                refused(x, "an int as lane " + lane, x.fill(0, h), KIND);
                due("none came", x.filled(), 0);
            }
        });
        holds(27, "Those ahead have come", x -> {
            int a = withField(x, INT);
            x.method(a, 0, TELLS_FIELD, 0);
            int b = withField(x, LONG);
            int c = below(x, a);
            x.field(c, 0, LONG, false);
            x.method(c, 0, TELLS_FIELD, 0);
            for (int n = 0; n < 4; n++) {
                x.set(ofField(x, a, 0), x.thing(n == 2 ? c : a), n + 5);
            }
            x.column(0, INT, 60);
            refused(x, "the third is a long", x.fill(0, ofMethods(x, a, 0)), KIND);
            due("two came", x.filled(), 2);
            due("the first", x.cell(0, 0), 5);
            due("the second", x.cell(0, 1), 6);
            due("not the third", x.cell(0, 2), 0);
            due("nor the fourth", x.cell(0, 3), 0);
            refused(x, "nor a field of another class", x.fill(0, ofField(x, c, 0)), KIND);
            due("what had come stays", x.cell(0, 0), 5);
            due("of b there is none", x.fill(0, ofField(x, b, 0)), 0);
            due("what had come stays", x.cell(0, 1), 6);
        });
    }

    private static void fillOrder() {
        holds(27, "of each: the FINDINGS of READING; KIND: a THING, NONE; INDEX: no cell is left; KIND", x -> {
            int a = withField(x, ANY);
            x.field(a, 1, INT, false);
            x.method(a, 2, ASKS, 2);
            x.thing(a);
            x.column(0, TRUTH, 0);
            HandleSentences.readNone(x);
            refused(x, "READING ahead of INDEX", x.fill(0, ofMethods(x, a, 2)), DEEP);
            refused(x, "a thing ahead of INDEX", x.fill(0, ofField(x, a, 0)), KIND);
            refused(x, "INDEX ahead of what does not widen", x.fill(0, ofField(x, a, 1)), INDEX);
        });
        holds(27, "a COLUMN that is not there)", x -> {
            int h = ofField(x, withField(x, INT), 0);
            due("fill()", x.fill(0, h), -11);
            due("status()", x.status(), -11);
        });
    }

    private static void filled() {
        holds(28, "How many cells came by the latest fill() that was not BAD, NULL (of the COLUMN)", x -> {
            int c = withField(x, INT);
            int h = ofField(x, c, 0);
            x.thing(c);
            x.thing(c);
            x.column(0, LONG, 2);
            x.column(1, LONG, 1);
            x.fill(0, h);
            due("two", x.filled(), 2);
            refused(x, "BAD", x.fill(6, h), BAD);
            due("behind BAD", x.filled(), 2);
            refused(x, "BAD handle", x.fill(0, h + 1), BAD);
            due("behind BAD", x.filled(), 2);
            refused(x, "NULL", x.fill(2, h), NULL);
            due("behind NULL", x.filled(), 2);
            refused(x, "INDEX", x.fill(1, h), INDEX);
            due("behind INDEX", x.filled(), 1);
            due("a fill of none", x.fill(1, ofField(x, withField(x, INT), 0)), 0);
            due("behind it", x.filled(), 0);
        });
        holds(28, "0 before", x -> {
            due("new", x.filled(), 0);
            int c = withField(x, INT);
            x.thing(c);
            x.fill(0, ofField(x, c, 0));
            due("behind NULL", x.filled(), 0);
        });
    }

    private static void cell() {
        holds(29, "BITS of cell i", x -> {
            filledColumn(x, FLOAT, bits(1f), bits(-2f));
            due("the first", x.cell(0, 0), bits(1f));
            due("status()", x.status(), 0);
            due("the second", x.cell(0, 1), bits(-2f));
            filledColumn(x, LONG, Long.MIN_VALUE);
            due("what looks lost", x.cell(0, 0), Long.MIN_VALUE);
            due("is not refused", x.status(), 0);
        });
        holds(29, "BAD: k", x -> changesNothing(x, () -> {
            for (int k : new int[] {-1, 6, LEAST, MOST}) {
                lost(x, "column " + k, x.cell(k, 0), BAD);
            }
        }));
        holds(29, "NULL", x -> {
            lost(x, "not there", x.cell(5, 0), NULL);
            lost(x, "NULL ahead of INDEX", x.cell(5, -1), NULL);
        });
        holds(29, "INDEX", x -> {
            x.column(0, INT, 3);
            for (int i : new int[] {-1, 3, 60, LEAST, MOST}) {
                lost(x, "cell " + i, x.cell(0, i), INDEX);
            }
            due("the last", x.cell(0, 2), 0);
        });
    }

    /** COLUMN 0 with a cell more than the VALUES that it is filled with. */
    private static void filledColumn(QueryHandles x, int lane, long... values) {
        int c = withField(x, lane);
        int h = ofField(x, c, 0);
        for (long v : values) {
            x.set(h, x.thing(c), v);
        }
        x.column(0, lane, values.length + 1);
        due("filled", x.fill(0, h), values.length);
    }

    private static void sums(QueryHandles x, String what, int lane, long want, long... values) {
        filledColumn(x, lane, values);
        due(what, x.sum(0), want);
        due(what + ", status()", x.status(), 0);
    }

    private static void sum() {
        holds(30, "Cells together: LANES 0 to 5 as a long that wraps", x -> {
            sums(x, "truths", TRUTH, 2, 1, 0, 9);
            sums(x, "bytes do not wrap", BYTE, 254, 127, 127);
            sums(x, "bytes below 0", BYTE, -256, -128, -128);
            sums(x, "shorts do not wrap", SHORT, 65534, 32767, 32767);
            sums(x, "chars do not wrap", CHAR, 131070, 65535, 65535);
            sums(x, "ints do not wrap", INT, 2L * MOST, MOST, MOST);
            sums(x, "longs wrap", LONG, Long.MIN_VALUE, Long.MAX_VALUE, 1);
            sums(x, "longs wrap below", LONG, Long.MAX_VALUE, Long.MIN_VALUE, -1);
            x.column(1, INT, 0);
            due("no cells", x.sum(1), 0);
        });
        holds(30, "BAD", x -> changesNothing(x, () -> {
            for (int k : new int[] {-1, 6, LEAST, MOST}) {
                lost(x, "column " + k, x.sum(k), BAD);
            }
        }));
        holds(30, "NULL", x -> {
            for (int k = 0; k <= 5; k++) {
                lost(x, "column " + k, x.sum(k), NULL);
            }
        });
    }

    private static void sumOfDoubles() {
        holds(30, "6, 7: BITS of a double", x -> {
            sums(x, "floats", FLOAT, bits(1.5), bits(1f), bits(0.5f));
            long most = bits(Float.MAX_VALUE);
            sums(x, "floats as doubles", FLOAT, bits(2.0 * Float.MAX_VALUE), most, most);
            sums(x, "floats, not rounded to floats", FLOAT, bits(16777217.0), bits(16777216f), bits(1f));
            sums(x, "least floats", FLOAT, bits(2.0 * Float.MIN_VALUE), 1, 1);
            sums(x, "doubles", DOUBLE, bits(0.1 + 0.2), bits(0.1), bits(0.2));
            sums(x, "least doubles", DOUBLE, 2, 1, 1);
            sums(x, "a sum that is endless", DOUBLE, ENDLESS_DOUBLE, bits(1e308), bits(1e308), bits(-1e308));
            sums(x, "below 0", DOUBLE, bits(Double.NEGATIVE_INFINITY), bits(-1e308), bits(-1e308), bits(1e308));
        });
        holds(30, "6, 7: BITS of a double", x -> {
            double[][] parts = {{Double.MIN_NORMAL, -Double.MIN_VALUE}, {-Double.MIN_NORMAL, Double.MIN_NORMAL},
                {Double.MIN_NORMAL, Double.MIN_NORMAL}, {1, 0x1p-53}, {1, 0x1p-53, 0x1p-53}, {1 + 0x1p-52, 0x1p-53},
                {1, 0x1.0000000000001p-53}, {1, -0x1p-54}, {1, -0x1.0000000000001p-54}, {1, 0x1p-200}, {1, -0x1p-200},
                {0x1p60, 0x1p-1, 0x1p7, 0x1p7}, {1e16, 1, -1e16}, {-3.5, 1.25}, {Double.MAX_VALUE, 0x1p969},
                {Double.MAX_VALUE, 0x1p970}, {0x1.fffffffffffffp0, 0x1p-53}, {1, -0x1.fffffffffffffp-1},
                {0x1.fffffffffffffp0, 0x1.0000000000001p-51}, {-0x1.fffffffffffffp0, -0x1.0000000000001p-51}};
            for (double[] p : parts) {
                double due = 0.0;
                long[] values = new long[p.length];
                for (int i = 0; i < p.length; i++) {
                    due += p[i];
                    values[i] = bits(p[i]);
                }
                sums(x, "as the machine adds " + java.util.Arrays.toString(p), DOUBLE, bits(due), values);
            }
        });
        holds(30, "from 0.0 on in order", x -> {
            x.column(1, DOUBLE, 0);
            due("no cells", x.sum(1), 0);
            due("status()", x.status(), 0);
            sums(x, "-0.0 alone", DOUBLE, 0, Long.MIN_VALUE);
            sums(x, "what is taken away again", DOUBLE, 0, bits(-1.5), bits(1.5));
            sums(x, "small ones behind a large one", DOUBLE, bits(0x1p53), bits(0x1p53), bits(1.0), bits(1.0));
            sums(x, "small ones ahead of a large one", DOUBLE, bits(0x1p53 + 2), bits(1.0), bits(1.0), bits(0x1p53));
        });
        holds(30, "those alone that are numbers and not endless", x -> {
            sums(x, "no number", DOUBLE, bits(3.0), NO_DOUBLE, bits(3.0), -1);
            sums(x, "endless", DOUBLE, bits(3.0), ENDLESS_DOUBLE, bits(3.0), bits(Double.NEGATIVE_INFINITY));
            sums(x, "none else", DOUBLE, 0, ENDLESS_DOUBLE, NO_DOUBLE);
            sums(x, "floats", FLOAT, bits(3.0), NO_FLOAT, ENDLESS_FLOAT, bits(3f), bits(Float.NEGATIVE_INFINITY));
            sums(x, "the greatest is not endless", DOUBLE, bits(Double.MAX_VALUE), bits(Double.MAX_VALUE));
        });
    }
}
