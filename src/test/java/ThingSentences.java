import java.util.function.LongSupplier;

/** Promises 13 to 20, sentence by sentence. */
final class ThingSentences extends Sentences {
    private ThingSentences() { }

    static void all() {
        thing();
        places();
        things();
        kind();
        isA();
        read();
        values();
        write();
        put();
        readAs();
        writeAs();
        widening();
    }

    private static void thing() {
        holds(13, "A THING of a CLASS: its number", x -> {
            int c = below(x, ANY);
            due("the first", x.thing(c), 0);
            due("status()", x.status(), 0);
            due("a row counts, too", x.things(INT, 0), 1);
            due("of ANY", x.thing(ANY), 2);
            due("its class", x.kind(0, 0), c);
        });
        holds(13, "BAD: no CLASS", x -> {
            int c = x.cls(ANY, true);
            int[] none = {TRUTH, DOUBLE, x.face(), x.row(c), x.variable(c, c), -1, 60, 100, LEAST, MOST};
            changesNothing(x, () -> {
                for (int cls : none) {
                    refused(x, "of " + cls, x.thing(cls), BAD);
                }
            });
        });
        holds(13, "FULL", x -> {
            int open = x.cls(ANY, true);
            int late = below(x, ANY);
            makeAllThings(x);
            changesNothing(x, () -> {
                refused(x, "one more", x.thing(ANY), FULL);
                refused(x, "FULL ahead of NO", x.thing(open), FULL);
                refused(x, "BAD ahead of FULL", x.thing(INT), BAD);
                refused(x, "of a class without things", x.thing(late), FULL);
            });
            due("that closed nothing", x.field(late, 0, INT, false), 0);
        });
        holds(13, "NO: it is OPEN", x -> {
            int open = x.cls(ANY, true);
            changesNothing(x, () -> refused(x, "open", x.thing(open), NO));
            due("that closed nothing", x.field(open, 0, INT, false), 0);
            due("below it", x.thing(below(x, open)), 0);
        });
        holds(13, "THINGS are numbers 0 .. 59, as they are made", x -> {
            for (int n = 0; n < 60; n++) {
                due("thing", n % 2 == 0 ? x.thing(ANY) : x.things(INT, 1), n);
            }
            due("the last", x.kind(59, 1), 1);
            refused(x, "no thing 60", x.kind(60, 1), BAD);
            refused(x, "no more things", x.thing(ANY), FULL);
            refused(x, "no more rows", x.things(INT, 1), FULL);
        });
        holds(13, "NONE (-1) is no THING", x -> {
            x.thing(ANY);
            refused(x, "asked", x.kind(NONE, 0), NULL);
            refused(x, "-2 is not even NONE", x.kind(-2, 0), BAD);
        });
        holds(13, "(ANY is CLOSED with the first THING of a CLASS, too)", x -> {
            x.things(ANY, 1);
            due("a row closes nothing", x.told(6), 0);
            x.thing(below(x, ANY));
            due("ANY and the class", x.told(6), 2);
            x.thing(ANY);
            due("ANY is closed once", x.told(6), 2);
        });
    }

    private static void places() {
        holds(15, "A THING of a CLASS (that is not OPEN) has a PLACE for each FIELD, not SHARED, of all"
            + " CLASSES ABOVE it, hidden ones, too", x -> {
            int a = x.cls(ANY, true);
            int b = below(x, a);
            x.field(a, 0, INT, false);
            x.field(a, 1, INT, true);
            x.field(b, 0, LONG, false);
            x.method(b, 5, TELLS_INT, 0);
            int hidden = ofField(x, a, 0);
            int hiding = ofField(x, b, 0);
            int t = x.thing(b);
            due("places", x.kind(t, 2), 2);
            x.set(hidden, t, 5);
            x.set(hiding, t, 6);
            due("the hidden one", x.get(hidden, t), 5);
            due("the hiding one", x.get(hiding, t), 6);
        });
        holds(15, "a SHARED FIELD has one PLACE", x -> {
            int a = below(x, ANY);
            int b = below(x, a);
            x.field(a, 0, INT, true);
            int h = ofField(x, a, 0);
            int below = ofField(x, b, 0);
            int one = x.thing(a);
            int other = x.thing(b);
            x.set(h, one, 5);
            due("by another thing", x.get(h, other), 5);
            due("by another handle", x.get(below, other), 5);
            due("no place in a thing", x.kind(one, 2), 0);
        });
        holds(15, "(a THING of a CLASS: that CLASS, 0)", x -> {
            int c = below(x, below(x, ANY));
            x.thing(c);
            due("base", x.kind(0, 0), c);
            due("depth", x.kind(0, 1), 0);
        });
    }

    private static void things() {
        holds(14, "A ROW of n items of a component: its number", x -> {
            int open = x.cls(ANY, true);
            due("of an open class", x.things(open, 3), 0);
            due("status()", x.status(), 0);
            due("of a face", x.things(x.face(), 1), 1);
            due("of a lane", x.things(TRUTH, 1), 2);
            due("of rows", x.things(x.row(INT), 1), 3);
            due("of ANY", x.things(ANY, 1), 4);
            due("items", x.kind(0, 2), 3);
        });
        holds(14, "A THING that is a ROW is of a component, ERASED, and has 0 to 12 items", x -> {
            int c = below(x, ANY);
            int v = x.variable(c, x.row(c));
            int none = x.things(v, 0);
            int twelve = x.things(v, 12);
            due("no items", x.kind(none, 2), 0);
            due("twelve items", x.kind(twelve, 2), 12);
            due("the last", x.read(twelve, 11), NONE);
            lost(x, "none at all", x.read(none, 0), INDEX);
            int row = x.things(c, 1);
            due("what is its component, erased", x.write(twelve, 11, row), 1);
        });
        holds(14, "ERASED it is that with one DEPTH more", x -> {
            int c = below(x, ANY);
            int[] types = {INT, c, x.row(x.row(INT)), x.variable(c, x.row(c))};
            for (int type : types) {
                int t = x.things(type, 1);
                due("base", x.kind(t, 0), x.erased(type, 0));
                due("depth", x.kind(t, 1), x.erased(type, 1) + 1);
                due("it is a row of it", x.isA(t, x.row(type)), 1);
            }
        });
        holds(14, "BAD: TYPE", x -> changesNothing(x, () -> {
            for (int type : new int[] {-1, 9, 99, 100, LEAST, MOST}) {
                refused(x, "of " + type, x.things(type, 1), BAD);
                refused(x, "BAD ahead of SIZE", x.things(type, -1), BAD);
            }
        }));
        holds(14, "n above 12", x -> changesNothing(x, () -> {
            refused(x, "13", x.things(INT, 13), BAD);
            refused(x, "most", x.things(INT, MOST), BAD);
        }));
        holds(14, "FULL", x -> {
            makeAllThings(x);
            changesNothing(x, () -> {
                refused(x, "one more", x.things(INT, 0), FULL);
                refused(x, "FULL ahead of SIZE", x.things(INT, -1), FULL);
                refused(x, "BAD ahead of FULL", x.things(INT, 13), BAD);
            });
        });
        holds(14, "SIZE", x -> changesNothing(x, () -> {
            refused(x, "-1", x.things(INT, -1), SIZE);
            refused(x, "least", x.things(INT, LEAST), SIZE);
        }));
        holds(14, "-15 SIZE (fewer than no places)", x -> {
            due("fewer than none", x.things(INT, -1), -15);
            due("none is fine", x.things(INT, 0), 0);
        });
    }

    private static void kind() {
        holds(15, "Of a THING: what = 0, 1 BASE and DEPTH of it, ERASED, 2 how many items (of a CLASS's:"
            + " PLACES)", x -> {
            int c = withField(x, INT);
            int t = x.thing(c);
            int row = x.things(x.row(c), 7);
            due("base", x.kind(t, 0), c);
            due("status()", x.status(), 0);
            due("depth", x.kind(t, 1), 0);
            due("places", x.kind(t, 2), 1);
            due("base of a row", x.kind(row, 0), c);
            due("depth of a row", x.kind(row, 1), 2);
            due("items of a row", x.kind(row, 2), 7);
        });
        holds(15, "BAD", x -> {
            int t = x.thing(ANY);
            changesNothing(x, () -> {
                for (int what : new int[] {-1, 3, LEAST, MOST}) {
                    refused(x, "what " + what, x.kind(t, what), BAD);
                    refused(x, "BAD ahead of NULL", x.kind(NONE, what), BAD);
                }
                for (int none : new int[] {-2, t + 1, 60, LEAST, MOST}) {
                    refused(x, "thing " + none, x.kind(none, 0), BAD);
                }
            });
        });
        holds(15, "NULL", x -> {
            for (int what = 0; what <= 2; what++) {
                refused(x, "NONE", x.kind(NONE, what), NULL);
            }
        });
    }

    private static void isA() {
        holds(16, "Whether a THING IS a TYPE, ERASED: 1, 0", x -> {
            int a = below(x, ANY);
            int b = below(x, a);
            int v = x.variable(a, x.row(a));
            int t = x.thing(b);
            int row = x.things(b, 0);
            due("the class above", x.isA(t, a), 1);
            due("status()", x.status(), 0);
            due("a lane", x.isA(t, INT), 0);
            due("status()", x.status(), 0);
            due("a row of it", x.isA(t, x.row(b)), 0);
            due("a row is a variable's bound", x.isA(row, v), 1);
            due("a row is ANY", x.isA(row, ANY), 1);
            due("a row is no row of rows", x.isA(row, x.row(v)), 0);
        });
        holds(16, "BAD", x -> {
            int t = x.thing(ANY);
            changesNothing(x, () -> {
                for (int none : new int[] {-2, t + 1, 60, LEAST, MOST}) {
                    refused(x, "thing " + none, x.isA(none, ANY), BAD);
                }
                for (int type : new int[] {-1, 9, 99, 100, LEAST, MOST}) {
                    refused(x, "type " + type, x.isA(t, type), BAD);
                    refused(x, "BAD ahead of NULL", x.isA(NONE, type), BAD);
                }
            });
        });
        holds(16, "NULL", x -> {
            refused(x, "NONE is not even ANY", x.isA(NONE, ANY), NULL);
            refused(x, "nor a lane", x.isA(NONE, INT), NULL);
        });
    }

    private static void read() {
        holds(17, "Item i of a ROW: BITS, or the THING", x -> {
            int ints = x.things(INT, 2);
            int anys = x.things(ANY, 2);
            x.write(ints, 1, -5);
            x.write(anys, 1, ints);
            due("bits", x.read(ints, 1), -5);
            due("status()", x.status(), 0);
            due("a thing", x.read(anys, 1), ints);
            due("none", x.read(anys, 0), NONE);
        });
        holds(17, "BAD: no THING and not NONE (so below, too)", x -> {
            int c = withField(x, INT);
            x.field(c, 1, INT, true);
            int h = ofField(x, c, 0);
            int shared = ofField(x, c, 1);
            int t = x.thing(c);
            changesNothing(x, () -> {
                for (int none : new int[] {-2, t + 1, 60, LEAST, MOST}) {
                    lost(x, "read", x.read(none, 0), BAD);
                    refused(x, "write", x.write(none, 0, 0), BAD);
                    lost(x, "readAs", x.readAs(none, 0, INT), BAD);
                    refused(x, "writeAs", x.writeAs(none, 0, INT, 0), BAD);
                    lost(x, "get", x.get(h, none), BAD);
                    lost(x, "get of a shared field", x.get(shared, none), BAD);
                    lost(x, "getAs", x.getAs(h, none, INT), BAD);
                    lost(x, "getAs of a shared field", x.getAs(shared, none, INT), BAD);
                    refused(x, "set", x.set(h, none, 7), BAD);
                    refused(x, "set of a shared field", x.set(shared, none, 7), BAD);
                }
            });
        });
        holds(17, "NULL", x -> lost(x, "NONE", x.read(NONE, LEAST), NULL));
        holds(17, "CAST: it is no ROW", x -> {
            int t = x.thing(withField(x, INT));
            lost(x, "a thing of a class", x.read(t, 0), CAST);
            lost(x, "CAST ahead of INDEX", x.read(t, -1), CAST);
        });
        holds(17, "INDEX", x -> {
            int row = x.things(INT, 3);
            for (int i : new int[] {-1, 3, LEAST, MOST}) {
                lost(x, "item " + i, x.read(row, i), INDEX);
            }
            due("the first", x.read(row, 0), 0);
            due("the last", x.read(row, 2), 0);
            lost(x, "of no items", x.read(x.things(INT, 0), 0), INDEX);
        });
        holds(17, "-11 NULL (a THING is asked that is NONE", x -> {
            x.read(NONE, 0);
            due("status()", x.status(), -11);
        });
        holds(17, "-12 INDEX", x -> {
            x.read(x.things(INT, 1), 1);
            due("status()", x.status(), -12);
        });
        holds(17, "-13 CAST", x -> {
            x.read(x.thing(ANY), 0);
            due("status()", x.status(), -13);
        });
        holds(17, "Calls that answer a long: LOST for all of these; status() tells which", x -> {
            int row = x.things(LONG, 1);
            x.write(row, 0, Long.MIN_VALUE);
            due("what looks lost", x.read(row, 0), QueryHandles.LOST);
            due("is not refused", x.status(), 0);
            due("what is lost", x.read(row, 1), Long.MIN_VALUE);
            due("is refused", x.status(), INDEX);
        });
    }

    private static void values() {
        holds(17, "PLACES of a LANE (DEPTH 0), and items of ROWS of one, hold VALUES, 0 at first", x -> {
            for (int lane = TRUTH; lane <= DOUBLE; lane++) {
                int c = withField(x, lane);
                int h = ofField(x, c, 0);
                due("a place", x.get(h, x.thing(c)), 0);
                due("its lane", x.lane(), lane);
                int row = x.things(lane, 12);
                due("the first item", x.read(row, 0), 0);
                due("the last item", x.read(row, 11), 0);
            }
        });
        holds(17, "others a THING that IS their ERASED TYPE, or NONE (at first)", x -> {
            int c = below(x, ANY);
            int[] types = {ANY, c, x.face(), x.row(INT), x.variable(c, x.row(c))};
            for (int n = 0; n < types.length; n++) {
                x.field(c, n, types[n], false);
            }
            int t = x.thing(c);
            for (int n = 0; n < types.length; n++) {
                due("a place", x.get(ofField(x, c, n), t), NONE);
                due("a thing", x.lane(), 8);
                int row = x.things(types[n], 12);
                due("the first item", x.read(row, 0), NONE);
                due("the last item", x.read(row, 11), NONE);
            }
        });
        holds(17, "others a THING that IS their ERASED TYPE, or NONE (at first)", x -> {
            int a = withField(x, ANY);
            int b = below(x, a);
            x.field(b, 0, INT, false);
            x.field(b, 1, ANY, false);
            int c = below(x, b);
            x.field(c, 0, ANY, false);
            x.field(c, 1, INT, false);
            x.field(c, 2, ANY, true);
            x.field(c, 3, ANY, false);
            x.method(a, 0, TELLS_INT, 1);
            x.method(b, 0, TELLS_INT, 1);
            int t = x.thing(c);
            due("its own, with methods above", x.get(ofField(x, c, 3), t), NONE);
            due("above", x.get(ofField(x, a, 0), t), NONE);
            due("between, a lane", x.get(ofField(x, b, 0), t), 0);
            due("between", x.get(ofField(x, b, 1), t), NONE);
            due("its own", x.get(ofField(x, c, 0), t), NONE);
            due("its own, a lane", x.get(ofField(x, c, 1), t), 0);
            due("a shared one", x.get(ofField(x, c, 2), t), NONE);
        });
        holds(17, "VALUES are told by BITS, a long: of a truth 1, 0", x -> {
            keeps(x, TRUTH, 1, 1);
            keeps(x, TRUTH, 0, 0);
        });
        holds(17, "of 1 to 5 itself", x -> {
            keeps(x, BYTE, -128, -128);
            keeps(x, BYTE, 127, 127);
            keeps(x, SHORT, -32768, -32768);
            keeps(x, SHORT, 32767, 32767);
            keeps(x, CHAR, 0, 0);
            keeps(x, CHAR, 65535, 65535);
            keeps(x, INT, LEAST, LEAST);
            keeps(x, INT, MOST, MOST);
            keeps(x, LONG, Long.MIN_VALUE, Long.MIN_VALUE);
            keeps(x, LONG, Long.MAX_VALUE, Long.MAX_VALUE);
        });
        holds(17, "of a float its 32 bits (as an int), of a double its 64", x -> {
            keeps(x, FLOAT, bits(-1f), 0xffffffffbf800000L);
            keeps(x, FLOAT, bits(1f), 0x3f800000L);
            keeps(x, FLOAT, 0x80000000L, LEAST);
            keeps(x, FLOAT, ENDLESS_FLOAT, ENDLESS_FLOAT);
            keeps(x, FLOAT, 0xff800000L, 0xffffffffff800000L);
            keeps(x, FLOAT, 1, 1);
            keeps(x, DOUBLE, bits(-1.0), 0xbff0000000000000L);
            keeps(x, DOUBLE, Long.MIN_VALUE, Long.MIN_VALUE);
            keeps(x, DOUBLE, ENDLESS_DOUBLE, ENDLESS_DOUBLE);
            keeps(x, DOUBLE, 0xfff0000000000000L, 0xfff0000000000000L);
            keeps(x, DOUBLE, 1, 1);
        });
        holds(17, "(of what is no number 0x7fc00000, 0x7ff8000000000000, whatever bits came)", x -> {
            for (long bits : new long[] {0x7f800001L, 0x7fffffffL, 0x7fc00001L, 0xff800001L,
                0xffc00000L, -1, NO_FLOAT}) {
                keeps(x, FLOAT, bits, NO_FLOAT);
            }
            for (long bits : new long[] {ENDLESS_DOUBLE + 1, Long.MAX_VALUE, NO_DOUBLE + 1, 0xfff0000000000001L,
                0xfff8000000000000L, -1, NO_DOUBLE}) {
                keeps(x, DOUBLE, bits, NO_DOUBLE);
            }
        });
    }

    /** As an item that is written, written as its own LANE, and read as that. */
    private static void keeps(QueryHandles x, int lane, long put, long kept) {
        int row = x.things(lane, 2);
        String what = "lane " + lane + " by " + put;
        due(what, x.write(row, 0, put), 1);
        due(what + ", read", x.read(row, 0), kept);
        due(what + ", written as itself", x.writeAs(row, 1, lane, put), 1);
        due(what + ", read as itself", x.readAs(row, 1, lane), kept);
    }

    private static void write() {
        holds(18, "v is PUT into item i: 1", x -> {
            int row = x.things(INT, 3);
            due("the last", x.write(row, 2, 9), 1);
            due("status()", x.status(), 0);
            due("it", x.read(row, 2), 9);
            due("the one ahead", x.read(row, 1), 0);
            due("again", x.write(row, 2, 8), 1);
            due("the new one", x.read(row, 2), 8);
        });
        holds(18, "BAD", x -> {
            int row = x.things(INT, 1);
            changesNothing(x, () -> {
                for (int none : new int[] {-2, row + 1, 60, LEAST, MOST}) {
                    refused(x, "thing " + none, x.write(none, 0, 1), BAD);
                }
            });
        });
        holds(18, "NULL", x -> refused(x, "NONE", x.write(NONE, -1, 1), NULL));
        holds(18, "CAST", x -> {
            int t = x.thing(withField(x, INT));
            changesNothing(x, () -> {
                refused(x, "a thing of a class", x.write(t, 0, 1), CAST);
                refused(x, "CAST ahead of INDEX", x.write(t, -1, 1), CAST);
            });
        });
        holds(18, "INDEX", x -> {
            int row = x.things(ANY, 3);
            changesNothing(x, () -> {
                for (int i : new int[] {-1, 3, LEAST, MOST}) {
                    refused(x, "item " + i, x.write(row, i, NONE), INDEX);
                    refused(x, "INDEX ahead of STORE", x.write(row, i, 60), INDEX);
                }
            });
        });
        holds(18, "STORE", x -> {
            int row = x.things(withField(x, INT), 1);
            changesNothing(x, () -> refused(x, "a row is none", x.write(row, 0, row), STORE));
        });
        holds(18, "-14 STORE", x -> {
            int row = x.things(ANY, 1);
            due("no thing", x.write(row, 0, 60), -14);
        });
        holds(18, "They change nothing but what is told (and status())", x -> {
            int row = x.things(ANY, 1);
            x.write(row, 0, row);
            changesNothing(x, () -> {
                refused(x, "STORE", x.write(row, 0, 60), STORE);
                refused(x, "INDEX", x.write(row, 1, NONE), INDEX);
                refused(x, "KIND", x.writeAs(row, 0, INT, 0), KIND);
            });
            due("the old one", x.read(row, 0), row);
        });
    }

    private static void put() {
        holds(18, "From BITS: a truth is whether they are not 0", x -> {
            for (long bits : new long[] {2, -1, 256, 1L << 32, Long.MIN_VALUE}) {
                keeps(x, TRUTH, bits, 1);
            }
            keeps(x, TRUTH, 0, 0);
        });
        holds(18, "of others as many of the lowest ones as the LANE has", x -> {
            keeps(x, BYTE, 128, -128);
            keeps(x, BYTE, -129, 127);
            keeps(x, BYTE, 256, 0);
            keeps(x, SHORT, 32768, -32768);
            keeps(x, SHORT, 65536, 0);
            keeps(x, CHAR, -1, 65535);
            keeps(x, CHAR, 65536, 0);
            keeps(x, INT, MOST + 1L, LEAST);
            keeps(x, INT, 1L << 32, 0);
            keeps(x, FLOAT, 0x123456783f800000L, 0x3f800000L);
            keeps(x, FLOAT, 1L << 32, 0);
        });
        holds(18, "To be PUT: into a PLACE or item of a LANE a number by its BITS", x -> {
            int c = withField(x, BYTE);
            int t = x.thing(c);
            int h = ofField(x, c, 0);
            due("a place", x.set(h, t, 300), 1);
            due("it", x.get(h, t), 44);
            int row = x.things(BYTE, 1);
            due("an item, though there is no such thing", x.write(row, 0, 300), 1);
            due("it", x.read(row, 0), 44);
        });
        holds(18, "else the THING with that number, or NONE", x -> {
            int c = below(x, ANY);
            int row = x.things(c, 1);
            int t = x.thing(below(x, c));
            due("a thing of a class below", x.write(row, 0, t), 1);
            due("it", x.read(row, 0), t);
            due("NONE", x.write(row, 0, NONE), 1);
            due("it", x.read(row, 0), NONE);
            int rows = x.things(x.row(ANY), 1);
            due("a row of it", x.write(rows, 0, row), 1);
            due("itself", x.write(rows, 0, rows), 1);
        });
        holds(18, "else the THING with that number, or NONE", x -> {
            int c = below(x, ANY);
            x.things(ANY, 0);
            x.things(ANY, 0);
            for (int lane = TRUTH; lane <= DOUBLE; lane++) {
                x.field(c, lane, x.row(lane), lane % 2 == 0);
            }
            int t = x.thing(c);
            for (int lane = TRUTH; lane <= DOUBLE; lane++) {
                int row = x.things(lane, 1);
                int rows = x.things(x.row(lane), 1);
                int h = ofField(x, c, lane);
                due("a row of a lane is a thing, no value", x.write(rows, 0, row), 1);
                due("it", x.read(rows, 0), row);
                due("as a place", x.set(h, t, row), 1);
                due("it", x.get(h, t), row);
                due("its lane", x.lane(), 8);
                x.write(rows, 0, NONE);
                x.set(h, t, NONE);
                due("NONE", x.read(rows, 0), NONE);
                due("NONE as a place", x.get(h, t), NONE);
            }
        });
        holds(18, "(STORE: there is no such one", x -> {
            int row = x.things(ANY, 1);
            x.write(row, 0, row);
            for (long v : new long[] {-2, row + 1, 59, 60, 1L << 32, (1L << 32) - 1, LEAST, MOST,
                Long.MIN_VALUE, Long.MAX_VALUE}) {
                refused(x, "thing " + v, x.write(row, 0, v), STORE);
            }
            due("the old one stays", x.read(row, 0), row);
        });
        holds(18, "or it IS not that TYPE)", x -> {
            int c = below(x, ANY);
            int f = x.face();
            int t = x.thing(c);
            int row = x.things(c, 1);
            int ints = x.things(INT, 1);
            int[] types = {below(x, c), f, x.row(c), x.row(x.row(c)), x.row(LONG), x.row(f)};
            for (int type : types) {
                int into = x.things(type, 1);
                refused(x, "a thing into " + type, x.write(into, 0, t), STORE);
                refused(x, "ints into " + type, x.write(into, 0, ints), STORE);
                due("none came", x.read(into, 0), NONE);
            }
            refused(x, "a row into its own component", x.write(row, 0, row), STORE);
            refused(x, "ints are no row of ANY", x.write(x.things(x.row(ANY), 1), 0, ints), STORE);
            due("but are ANY", x.write(x.things(ANY, 1), 0, ints), 1);
        });
    }

    private static void readAs() {
        holds(19, "BITS of item i WIDENED to a LANE", x -> {
            int row = x.things(BYTE, 2);
            x.write(row, 1, -3);
            due("as an int", x.readAs(row, 1, INT), -3);
            due("status()", x.status(), 0);
            due("as a float", x.readAs(row, 1, FLOAT), bits(-3f));
            due("as a double", x.readAs(row, 1, DOUBLE), bits(-3.0));
            due("the one ahead", x.readAs(row, 0, DOUBLE), 0);
        });
        holds(19, "BAD: also no LANE", x -> {
            int row = x.things(INT, 1);
            changesNothing(x, () -> {
                for (int lane : new int[] {-1, ANY, 9, LEAST, MOST}) {
                    lost(x, "lane " + lane, x.readAs(row, 0, lane), BAD);
                    lost(x, "BAD ahead of NULL", x.readAs(NONE, 0, lane), BAD);
                }
                lost(x, "no thing", x.readAs(row + 1, 0, INT), BAD);
                lost(x, "nor -2", x.readAs(-2, 0, INT), BAD);
            });
        });
        holds(19, "NULL", x -> lost(x, "NONE", x.readAs(NONE, -1, INT), NULL));
        holds(19, "KIND: it is no ROW of a LANE", x -> {
            int t = x.thing(withField(x, INT));
            int anys = x.things(ANY, 1);
            int rows = x.things(x.row(INT), 1);
            for (int none : new int[] {t, anys, rows}) {
                lost(x, "thing " + none, x.readAs(none, 0, INT), KIND);
                lost(x, "KIND ahead of INDEX", x.readAs(none, 9, INT), KIND);
            }
        });
        holds(19, "INDEX", x -> {
            int row = x.things(INT, 3);
            for (int i : new int[] {-1, 3, LEAST, MOST}) {
                lost(x, "item " + i, x.readAs(row, i, LONG), INDEX);
                lost(x, "INDEX ahead of KIND", x.readAs(row, i, BYTE), INDEX);
            }
            due("the last", x.readAs(row, 2, LONG), 0);
            lost(x, "of no items", x.readAs(x.things(INT, 0), 0, INT), INDEX);
        });
        holds(19, "KIND.", x -> lost(x, "an int as a short", x.readAs(x.things(INT, 1), 0, SHORT), KIND));
        holds(19, "-16 KIND (it does not WIDEN)", x -> {
            x.readAs(x.things(LONG, 1), 0, INT);
            due("status()", x.status(), -16);
        });
    }

    private static void writeAs() {
        holds(20, "A VALUE of a LANE by its BITS, WIDENED to the ROW's, comes into item i: 1", x -> {
            int row = x.things(LONG, 2);
            due("a byte", x.writeAs(row, 1, BYTE, 0x1ff), 1);
            due("status()", x.status(), 0);
            due("the byte first, then the long", x.read(row, 1), -1);
            due("the one ahead", x.read(row, 0), 0);
            due("a char", x.writeAs(row, 0, CHAR, -1), 1);
            due("it", x.read(row, 0), 65535);
            int doubles = x.things(DOUBLE, 1);
            x.writeAs(doubles, 0, FLOAT, -1);
            due("a float that is no number", x.read(doubles, 0), NO_DOUBLE);
            x.writeAs(doubles, 0, CHAR, -1);
            due("a char as a double", x.read(doubles, 0), bits(65535.0));
        });
        holds(20, "As readAs()", x -> {
            int t = x.thing(withField(x, INT));
            int anys = x.things(ANY, 1);
            int rows = x.things(x.row(INT), 1);
            int ints = x.things(INT, 2);
            changesNothing(x, () -> {
                for (int lane : new int[] {-1, ANY, LEAST, MOST}) {
                    refused(x, "lane " + lane, x.writeAs(ints, 0, lane, 1), BAD);
                    refused(x, "BAD ahead of NULL", x.writeAs(NONE, 0, lane, 1), BAD);
                }
                refused(x, "no thing", x.writeAs(ints + 1, 0, INT, 1), BAD);
                refused(x, "nor -2", x.writeAs(-2, 0, INT, 1), BAD);
                refused(x, "NULL", x.writeAs(NONE, 9, INT, 1), NULL);
                for (int none : new int[] {t, anys, rows}) {
                    refused(x, "KIND ahead of INDEX", x.writeAs(none, 9, INT, 1), KIND);
                    refused(x, "KIND", x.writeAs(none, 0, INT, 1), KIND);
                }
                for (int i : new int[] {-1, 2, LEAST, MOST}) {
                    refused(x, "INDEX", x.writeAs(ints, i, INT, 1), INDEX);
                    refused(x, "INDEX ahead of KIND", x.writeAs(ints, i, LONG, 1), INDEX);
                }
                refused(x, "KIND of the value", x.writeAs(ints, 0, LONG, 1), KIND);
            });
        });
    }

    private static void widening() {
        String[] words = {"A VALUE WIDENS to its own LANE", "a byte to short, int, long, float, double",
            "a short, a char to int, long, float, double", "a short, a char to int, long, float, double",
            "an int to long, float, double", "a long to float, double", "a float to double",
            "A VALUE WIDENS to its own LANE"};
        int[][] wider = {{}, {SHORT, INT, LONG, FLOAT, DOUBLE}, {INT, LONG, FLOAT, DOUBLE},
            {INT, LONG, FLOAT, DOUBLE}, {LONG, FLOAT, DOUBLE}, {FLOAT, DOUBLE}, {DOUBLE}, {}};
        for (int from = TRUTH; from <= DOUBLE; from++) {
            for (int to = TRUTH; to <= DOUBLE; to++) {
                boolean so = from == to;
                for (int lane : wider[from]) {
                    so |= lane == to;
                }
                widens(words[from], from, to, so);
            }
        }
        long[] longs = {0, 1, -1, 16777216, 16777217, 16777219, -16777217, MOST, LEAST, (1L << 53) - 1, 1L << 53,
            (1L << 53) + 1, (1L << 53) + 3, Long.MAX_VALUE, Long.MIN_VALUE, Long.MIN_VALUE + 1, Long.MAX_VALUE - 511,
            Long.MAX_VALUE - 512, (1L << 62) + (1L << 38), (1L << 62) + (1L << 38) + 1, (1L << 62) + (3L << 38)};
        holds(20, "as the machine casts it", x -> {
            int floats = x.things(FLOAT, 1);
            int doubles = x.things(DOUBLE, 1);
            for (long v : longs) {
                x.writeAs(floats, 0, LONG, v);
                due(v + " as a float", x.read(floats, 0), bits((float) v));
                x.writeAs(doubles, 0, LONG, v);
                due(v + " as a double", x.read(doubles, 0), bits((double) v));
                x.writeAs(floats, 0, INT, v);
                due((int) v + " as a float", x.read(floats, 0), bits((float) (int) v));
            }
        });
        holds(20, "as the machine casts it", x -> {
            int floats = x.things(FLOAT, 1);
            int doubles = x.things(DOUBLE, 1);
            for (int bit = 0; bit < 64; bit++) {
                long v = 1L << bit;
                x.writeAs(floats, 0, LONG, v);
                due(v + " as a float", x.read(floats, 0), bits((float) v));
                x.writeAs(doubles, 0, LONG, v - 1);
                due(v - 1 + " as a double", x.read(doubles, 0), bits((double) (v - 1)));
            }
        });
        float[] some = {0f, -0f, 1f, -1.5f, Float.MIN_VALUE, -Float.MIN_VALUE, Float.MIN_NORMAL,
            Math.nextDown(Float.MIN_NORMAL), Float.MAX_VALUE, -Float.MAX_VALUE, Float.POSITIVE_INFINITY,
            Float.NEGATIVE_INFINITY, Float.NaN, 0.1f};
        holds(19, "as the machine casts it", x -> {
            int floats = x.things(FLOAT, 1);
            for (float f : some) {
                x.write(floats, 0, bits(f));
                due(f + " as a double", x.readAs(floats, 0, DOUBLE), bits((double) f));
            }
        });
    }

    /** Whether 1, as it is in a LANE, WIDENS to another: by each of the four calls that do so. */
    private static void widens(String words, int from, int to, boolean so) {
        long one = from == FLOAT ? bits(1f) : from == DOUBLE ? bits(1.0) : 1;
        long wide = to == FLOAT ? bits(1f) : to == DOUBLE ? bits(1.0) : 1;
        String what = "from " + from + " to " + to;
        holds(19, words, x -> {
            int row = x.things(from, 1);
            x.write(row, 0, one);
            told(x, what, so, wide, () -> x.readAs(row, 0, to));
        });
        holds(20, words, x -> {
            int row = x.things(to, 1);
            due(what, x.writeAs(row, 0, from, one), so ? 1 : KIND);
            due(what + ", status()", x.status(), so ? 0 : KIND);
            due(what + ", read", x.read(row, 0), so ? wide : 0);
        });
        holds(24, words, x -> {
            int c = withField(x, from);
            int h = ofField(x, c, 0);
            int t = x.thing(c);
            x.set(h, t, one);
            told(x, what, so, wide, () -> x.getAs(h, t, to));
        });
        holds(27, words, x -> {
            int c = withField(x, from);
            int h = ofField(x, c, 0);
            x.set(h, x.thing(c), one);
            x.column(0, to, 1);
            due(what, x.fill(0, h), so ? 1 : KIND);
            due(what + ", status()", x.status(), so ? 0 : KIND);
            due(what + ", the cell", x.cell(0, 0), so ? wide : 0);
        });
    }

    private static void told(QueryHandles x, String what, boolean so, long wide, LongSupplier call) {
        long got = call.getAsLong();
        due(what, got, so ? wide : Long.MIN_VALUE);
        due(what + ", status()", x.status(), so ? 0 : KIND);
    }
}
