import java.util.function.Consumer;

/** Promises 37 to 40, sentence by sentence. */
final class ToldSentences extends Sentences {
    private ToldSentences() { }

    static void all() {
        trace();
        traceStays();
        traceIsFull();
        told();
        toldOfReading();
        status();
        statusOfEachCall();
        digest();
        digestOfThings();
        digestOfTheRest();
    }

    private static void trace() {
        holds(37, "Number i of THE TRACE", x -> {
            int c = HandleSentences.chain(x, 3, TELLS_INT);
            x.get(ofMethods(x, c, 0), x.thing(c));
            due("the first", x.trace(0), 100 * c);
            due("the last", x.trace(2), 100 * c - 200);
        });
        holds(37, "NONE", x -> {
            due("new", x.trace(0), NONE);
            int c = HandleSentences.chain(x, 3, TELLS_INT);
            x.get(ofMethods(x, c, 0), x.thing(c));
            for (int i : new int[] {-1, 3, 59, 60, LEAST, MOST}) {
                due("number " + i, x.trace(i), NONE);
            }
        });
        holds(37, "THE TRACE has the BODIES of the latest get(), getAs(), fill(), run(), total()", x -> {
            int a = x.cls(ANY, true);
            for (int name = 0; name < 5; name++) {
                x.method(a, name, TELLS_INT, name);
                x.handle(a, name, true);
            }
            x.field(a, 0, INT, false);
            int field = ofField(x, a, 0);
            int t = x.thing(below(x, a));
            x.query();
            x.test(0, 3, ALIKE, 3, false);
            x.column(0, INT, 60);
            x.get(0, t);
            traced(x, "get()", 100 * a);
            x.getAs(1, t, LONG);
            traced(x, "getAs()", 100 * a + 1);
            x.fill(0, 2);
            traced(x, "fill()", 100 * a + 2);
            x.run(0, 0, 60);
            traced(x, "run()", 100 * a + 3);
            x.total(4);
            traced(x, "total()", 100 * a + 4);
            x.get(field, t);
            traced(x, "a field has no bodies");
            x.total(4);
            x.run(0, 1, 60);
            traced(x, "a run of no things");
        });
        holds(37, "in the order in which they began: 100 times the TYPE that the METHOD is of and its number", x -> {
            int f = x.face();
            int a = withField(x, INT);
            int b = below(x, a);
            x.under(a, f);
            x.method(f, 5, 0, 0);
            x.method(f, 1, ASKS_AND_ONE, 2);
            x.method(a, 2, TELLS_FIELD, 0);
            x.method(b, 2, ABOVE, 0);
            x.method(b, 3, ASKS, 1);
            int t = x.thing(b);
            x.get(ofMethods(x, b, 3), t);
            traced(x, "asked", 100 * b + 1, 100 * f + 1, 100 * b, 100 * a + 1);
            x.thing(b);
            x.column(0, LONG, 2);
            x.fill(0, ofMethods(x, b, 2));
            traced(x, "of two things", 100 * b, 100 * a + 1, 100 * b, 100 * a + 1);
        });
    }

    private static void traced(QueryHandles x, String what, int... numbers) {
        due(what, x.told(4), numbers.length);
        for (int i = 0; i < numbers.length; i++) {
            due(what + ", " + i, x.trace(i), numbers[i]);
        }
        due(what + ", no more", x.trace(numbers.length), NONE);
    }

    private static void traceStays() {
        holds(37, "that was not BAD, NO, NULL (of a COLUMN)", x -> {
            int c = withField(x, INT);
            x.method(c, 0, TELLS_INT, 1);
            int method = ofMethods(x, c, 0);
            int field = ofField(x, c, 0);
            int t = x.thing(c);
            x.column(0, INT, 1);
            x.query();
            x.get(method, t);
            lost(x, "get() BAD", x.get(field, t + 1), BAD);
            lost(x, "getAs() BAD", x.getAs(field, t, ANY), BAD);
            refused(x, "fill() BAD", x.fill(6, field), BAD);
            refused(x, "fill() NULL", x.fill(1, field), NULL);
            refused(x, "run() BAD", x.run(1, 0, 60), BAD);
            refused(x, "run() NO", x.run(0, 0, 60), NO);
            lost(x, "total() BAD", x.total(2), BAD);
            refused(x, "set() NO", x.set(method, t, 0), NO);
            due("set()", x.set(field, t, 0), 1);
            due("read()", x.read(x.things(INT, 1), 0), 0);
            traced(x, "it stays", 100 * c + 1);
            lost(x, "get() NULL of a thing", x.get(method, NONE), NULL);
            traced(x, "it goes");
            x.get(method, t);
            lost(x, "get() CAST", x.get(method, x.thing(ANY)), CAST);
            traced(x, "it goes");
            x.get(method, t);
            lost(x, "getAs() KIND", x.getAs(method, t, BYTE), KIND);
            traced(x, "the bodies of what found something", 100 * c + 1);
        });
    }

    private static void traceIsFull() {
        holds(37, "60 at most (those that come later are not kept)", x -> {
            int c = HandleSentences.chain(x, 12, TELLS_INT);
            int d = below(x, c);
            x.method(d, 0, TELLS_INT, 0);
            int h = ofMethods(x, c, 0);
            x.column(0, INT, 60);
            for (int n = 0; n < 5; n++) {
                x.thing(c);
            }
            x.fill(0, h);
            due("sixty", x.told(4), 60);
            due("the last", x.trace(59), 900);
            x.thing(d);
            due("one more", x.fill(0, h), 6);
            due("sixty", x.told(4), 60);
            due("the first", x.trace(0), 100 * c);
            due("the last is the same", x.trace(59), 900);
            due("no more", x.trace(60), NONE);
            x.get(h, 5);
            traced(x, "it begins anew", 100 * d);
        });
    }

    private static void told() {
        holds(38, "How many: 0 TYPES that were made", x -> {
            x.cls(ANY, false);
            x.face();
            x.row(9);
            x.row(9);
            x.variable(9, 9);
            x.cls(INT, false);
            due("told(0)", x.told(0), 4);
            makeAllTypes(x);
            x.face();
            due("told(0)", x.told(0), 91);
        });
        holds(38, "1 THINGS", x -> {
            x.thing(ANY);
            x.things(INT, 1);
            x.thing(INT);
            x.things(INT, -1);
            due("told(1)", x.told(1), 2);
            makeAllThings(x);
            x.thing(ANY);
            due("told(1)", x.told(1), 60);
        });
        holds(38, "2 HANDLES", x -> {
            int c = withField(x, INT);
            x.handle(c, 0, false);
            x.handle(c, 1, false);
            due("told(2)", x.told(2), 1);
            for (int n = 0; n < 41; n++) {
                x.handle(c, 0, false);
            }
            due("told(2)", x.told(2), 40);
        });
        holds(38, "3 QUERIES", x -> {
            x.query();
            due("told(3)", x.told(3), 1);
            for (int n = 0; n < 21; n++) {
                x.query();
            }
            due("told(3)", x.told(3), 20);
        });
        holds(38, "6 CLOSED ones", x -> {
            int f = x.face();
            int g = x.face();
            int a = x.cls(ANY, true);
            int b = below(x, a);
            x.under(a, f);
            x.under(f, g);
            below(x, b);
            x.face();
            due("none", x.told(6), 0);
            x.thing(b);
            due("a, b, ANY, f, g", x.told(6), 5);
            x.thing(b);
            x.thing(ANY);
            due("no more", x.told(6), 5);
            x.thing(below(x, b));
            due("one more", x.told(6), 6);
        });
        holds(38, "7 CLASSES that were made", x -> {
            due("ANY was not", x.told(7), 0);
            x.cls(ANY, true);
            x.face();
            x.row(9);
            x.variable(9, 9);
            x.cls(10, false);
            x.cls(9, false);
            due("told(7)", x.told(7), 2);
            makeAllTypes(x);
            x.cls(9, false);
            due("told(7)", x.told(7), 2);
        });
        holds(38, "BAD", x -> {
            for (int what : new int[] {-1, 8, LEAST, MOST}) {
                due("told(" + what + ")", x.told(what), BAD);
                due("status() is not of told()", x.status(), 0);
            }
        });
    }

    private static void toldOfReading() {
        holds(38, "4 numbers in THE TRACE", x -> {
            due("new", x.told(4), 0);
            int c = HandleSentences.chain(x, 12, ASKS);
            int h = ofMethods(x, c, 0);
            x.get(h, x.thing(c));
            due("of one that found something", x.told(4), 12);
            x.get(h, NONE);
            due("of none", x.told(4), 0);
        });
        holds(38, "5 HITS", x -> {
            due("new", x.told(5), 0);
            int c = withField(x, INT);
            x.handle(c, 0, false);
            x.query();
            x.test(0, 0, ALIKE, 0, false);
            for (int n = 0; n < 60; n++) {
                x.thing(c);
            }
            x.run(0, 0, 60);
            due("sixty", x.told(5), 60);
            x.run(0, 60, 60);
            due("behind BAD", x.told(5), 60);
            x.run(0, 0, 0);
            due("none", x.told(5), 0);
        });
    }

    private static void status() {
        holds(39, "Why the latest call but status(), lane(), filled(), hit(), failed(), trace(), told() was"
            + " refused", x -> {
            x.face();
            x.cls(9, false);
            due("told once", x.status(), BAD);
            due("told twice", x.status(), BAD);
            x.lane();
            x.filled();
            x.hit(0);
            x.failed();
            x.trace(0);
            x.told(0);
            x.told(8);
            due("told behind all of these", x.status(), BAD);
        });
        holds(39, "BAD, FULL, NO, a FINDING", x -> {
            x.under(ANY, ANY);
            due("BAD", x.status(), -1);
            for (int n = 0; n < 21; n++) {
                x.query();
            }
            due("FULL", x.status(), -2);
            x.run(0, 0, 60);
            due("NO", x.status(), -3);
            x.kind(NONE, 0);
            due("NULL", x.status(), -11);
            x.things(ANY, 1);
            x.read(0, 1);
            due("INDEX", x.status(), -12);
            x.thing(ANY);
            x.write(1, 0, 0);
            due("CAST", x.status(), -13);
            x.write(0, 0, 60);
            due("STORE", x.status(), -14);
            x.column(0, INT, -1);
            due("SIZE", x.status(), -15);
            x.readAs(0, 0, INT);
            due("KIND", x.status(), -16);
            x.seen(ANY, 0);
            due("LACKING", x.status(), -17);
        });
        holds(39, "0: it was not", x -> {
            due("new", x.status(), 0);
            x.cls(INT, false);
            x.cls(ANY, false);
            due("behind one that was not", x.status(), 0);
            x.cls(INT, false);
            x.digest();
            due("digest() never is", x.status(), 0);
            x.cls(INT, false);
            x.is(INT, LONG);
            due("0 is an answer", x.status(), 0);
            x.write(x.things(ANY, 1), 0, NONE);
            x.kind(1, 0);
            x.read(0, 0);
            due("NONE is an answer, too", x.status(), 0);
        });
    }

    /** Each call, behind one that was refused: it is not, so that status() tells 0. */
    private static void clears(QueryHandles x, String what, Consumer<QueryHandles> call) {
        x.cls(INT, false);
        due("refused ahead of " + what, x.status(), BAD);
        call.accept(x);
        due(what, x.status(), 0);
    }

    private static void statusOfEachCall() {
        holds(39, "0: it was not", x -> {
            clears(x, "cls", o -> o.cls(ANY, false));
            clears(x, "face", QueryHandles::face);
            clears(x, "under", o -> o.under(9, 10));
            clears(x, "variable", o -> o.variable(9, 9));
            clears(x, "row", o -> o.row(INT));
            clears(x, "row again", o -> o.row(INT));
            clears(x, "erased", o -> o.erased(9, 0));
            clears(x, "is", o -> o.is(9, 9));
            clears(x, "field", o -> o.field(9, 0, INT, false));
            clears(x, "method", o -> o.method(9, 0, TELLS_INT, 1));
            clears(x, "found", o -> o.found(9, 0));
            clears(x, "seen", o -> o.seen(9, 0));
            clears(x, "thing", o -> o.thing(9));
            clears(x, "things", o -> o.things(INT, 1));
            clears(x, "kind", o -> o.kind(0, 0));
            clears(x, "isA", o -> o.isA(0, 9));
            clears(x, "read", o -> o.read(1, 0));
            clears(x, "write", o -> o.write(1, 0, 1));
            clears(x, "readAs", o -> o.readAs(1, 0, INT));
            clears(x, "writeAs", o -> o.writeAs(1, 0, INT, 1));
            clears(x, "handle", o -> o.handle(9, 0, false));
            clears(x, "get", o -> o.get(0, 0));
            clears(x, "getAs", o -> o.getAs(0, 0, INT));
            clears(x, "set", o -> o.set(0, 0, 1));
            clears(x, "column", o -> o.column(0, INT, 1));
            clears(x, "fill", o -> o.fill(0, 0));
            clears(x, "cell", o -> o.cell(0, 0));
            clears(x, "sum", o -> o.sum(0));
            clears(x, "query", QueryHandles::query);
            clears(x, "test", o -> o.test(0, 0, ALIKE, 1, false));
            clears(x, "run", o -> o.run(0, 0, 60));
            clears(x, "total", o -> o.total(0));
            clears(x, "digest", QueryHandles::digest);
        });
    }

    private static long mixed(long... numbers) {
        long h = 17;
        for (long n : numbers) {
            h = 31 * h + n;
        }
        return h;
    }

    private static void digest() {
        holds(40, "h is 17", x -> {
            due("new", x.digest(), 17);
            x.cls(ANY, false);
            x.face();
            x.method(9, 0, TELLS_INT, 5);
            x.field(9, 0, INT, false);
            x.handle(9, 0, false);
            x.query();
            due("of these nothing is told", x.digest(), 17);
        });
        holds(40, "for each number n, in order, h becomes 31 h and n, as longs that wrap", x -> {
            int row = x.things(LONG, 3);
            long[] v = {Long.MAX_VALUE, Long.MIN_VALUE, -1};
            for (int i = 0; i < 3; i++) {
                x.write(row, i, v[i]);
            }
            due("it wraps", x.digest(), mixed(LONG, 1, v[0], v[1], v[2]));
            due("told again", x.digest(), mixed(LONG, 1, v[0], v[1], v[2]));
        });
    }

    private static void digestOfThings() {
        holds(40, "of each THING BASE, DEPTH, then its items", x -> {
            int c = below(x, ANY);
            x.things(x.row(c), 2);
            x.things(BYTE, 0);
            x.things(FLOAT, 1);
            x.write(2, 0, 0x80000000L);
            x.things(c, 1);
            x.write(0, 1, 3);
            due("rows", x.digest(), mixed(c, 2, NONE, 3, BYTE, 1, FLOAT, 1, LEAST, c, 1, NONE));
        });
        holds(40, "or its PLACES (CLASSES ABOVE it from its own on, FIELDS by numbers)", x -> {
            int a = withField(x, INT);
            int b = below(x, a);
            x.method(b, 0, TELLS_INT, 0);
            x.field(b, 5, INT, false);
            x.field(b, 4, ANY, false);
            x.field(a, 9, LONG, false);
            int t = x.thing(b);
            x.thing(ANY);
            x.set(ofField(x, a, 0), t, 1);
            x.set(ofField(x, a, 9), t, 2);
            x.set(ofField(x, b, 5), t, 3);
            due("its own first", x.digest(), mixed(b, 0, 3, NONE, 1, 2, ANY, 0));
        });
    }

    private static void digestOfTheRest() {
        holds(40, "then all PLACES of SHARED FIELDS (TYPES, then MEMBERS by numbers)", x -> {
            int a = below(x, ANY);
            int b = below(x, a);
            x.field(b, 0, INT, true);
            x.field(a, 9, ANY, true);
            x.field(a, 3, INT, false);
            x.field(a, 0, INT, true);
            due("ahead of all things", x.digest(), mixed(NONE, 0, 0));
            x.set(ofField(x, a, 0), NONE, 5);
            x.set(ofField(x, b, 0), NONE, 6);
            int t = x.thing(b);
            x.set(ofField(x, a, 9), NONE, t);
            due("behind the things", x.digest(), mixed(b, 0, 0, t, 5, 6));
        });
        holds(40, "then of each COLUMN that is there its LANE, its cells", x -> {
            int c = below(x, ANY);
            x.field(c, 0, BYTE, true);
            int h = ofField(x, c, 0);
            x.set(h, NONE, 7);
            x.column(5, LONG, 0);
            x.column(2, INT, 2);
            x.column(0, DOUBLE, 1);
            due("behind the shared fields", x.digest(), mixed(7, DOUBLE, 0, INT, 0, 0, LONG));
            x.thing(c);
            x.fill(2, h);
            due("with what came", x.digest(), mixed(c, 0, 7, DOUBLE, 0, INT, 7, 0, LONG));
            x.column(2, TRUTH, 0);
            due("with a new one", x.digest(), mixed(c, 0, 7, DOUBLE, 0, TRUTH, LONG));
        });
    }
}
