/** Promises 21 to 25, sentence by sentence. */
final class HandleSentences extends Sentences {
    private HandleSentences() { }

    static void all() {
        handle();
        handleLacking();
        get();
        reading();
        bodies();
        asking();
        deep();
        lane();
        getAs();
        set();
        setRefused();
    }

    /** What is told by a READING that finds something is not what the one ahead of it told. */
    static void readNone(QueryHandles x) {
        int c = below(x, ANY);
        x.field(c, 0, ANY, true);
        due("NONE is read", x.get(ofField(x, c, 0), NONE), NONE);
    }

    private static void handle() {
        holds(21, "A HANDLE of a CLASS and the FIELD that is SEEN from it (as it is now)", x -> {
            int a = withField(x, INT);
            int b = below(x, a);
            due("of a field", x.handle(b, 0, false), 0);
            due("status()", x.status(), 0);
            x.field(b, 0, LONG, false);
            due("of the field that hides it now", x.handle(b, 0, false), 1);
            int t = x.thing(b);
            x.set(0, t, 1L << 32);
            x.set(1, t, 1L << 32);
            due("the first keeps the field above", x.get(0, t), 0);
            due("the second has the one that hides it", x.get(1, t), 1L << 32);
            lost(x, "the first is of the class below all the same", x.get(0, x.thing(a)), CAST);
        });
        holds(21, "or (method) a NAME: its number", x -> {
            int a = x.cls(ANY, true);
            int b = below(x, a);
            x.method(a, 9, 0, 0);
            due("of a name", x.handle(a, 9, true), 0);
            x.method(b, 9, TELLS_INT, 5);
            int t = x.thing(b);
            due("what is found as it is read", x.get(0, t), 5);
        });
        holds(21, "HANDLES, 40 at most, numbered from 0 on, are of a CLASS and a FIELD or a NAME of METHODS", x -> {
            int c = withField(x, INT);
            x.method(c, 0, TELLS_INT, 3);
            for (int n = 0; n < 40; n++) {
                due("handle", x.handle(c, 0, n % 2 != 0), n);
            }
            refused(x, "a forty-first", x.handle(c, 0, false), FULL);
            int t = x.thing(c);
            due("the first", x.get(0, t), 0);
            due("the last", x.get(39, t), 3);
            lost(x, "no more", x.get(40, t), BAD);
        });
        holds(21, "BAD: no CLASS", x -> {
            int c = withField(x, INT);
            int[] none = {TRUTH, DOUBLE, x.face(), x.row(c), x.variable(c, c), -1, 60, 100, LEAST, MOST};
            changesNothing(x, () -> {
                for (int cls : none) {
                    refused(x, "class " + cls, x.handle(cls, 0, false), BAD);
                    refused(x, "class " + cls, x.handle(cls, 0, true), BAD);
                }
            });
        });
        holds(21, "NAME", x -> {
            int c = withField(x, INT);
            changesNothing(x, () -> {
                for (int name : new int[] {-1, 10, LEAST, MOST}) {
                    refused(x, "name " + name, x.handle(c, name, false), BAD);
                    refused(x, "name " + name, x.handle(c, name, true), BAD);
                }
            });
        });
        holds(21, "FULL", x -> {
            int c = withField(x, INT);
            for (int n = 0; n < 40; n++) {
                due("handle", x.handle(c, 0, false), n);
            }
            changesNothing(x, () -> {
                refused(x, "one more", x.handle(c, 0, false), FULL);
                refused(x, "FULL ahead of LACKING, field", x.handle(c, 1, false), FULL);
                refused(x, "FULL ahead of LACKING, method", x.handle(c, 1, true), FULL);
                refused(x, "BAD ahead of FULL", x.handle(c, 10, false), BAD);
            });
        });
    }

    private static void handleLacking() {
        holds(21, "LACKING: no FIELD is SEEN", x -> {
            int a = below(x, ANY);
            int b = withField(x, INT);
            x.method(a, 0, TELLS_INT, 0);
            changesNothing(x, () -> {
                refused(x, "a method alone", x.handle(a, 0, false), LACKING);
                refused(x, "another name", x.handle(b, 1, false), LACKING);
                refused(x, "ANY", x.handle(ANY, 0, false), LACKING);
            });
        });
        holds(21, "no CLASS ABOVE it, no FACE OF it has a METHOD of that NAME", x -> {
            int a = x.cls(ANY, true);
            int b = below(x, a);
            int c = below(x, b);
            int f = x.face();
            int g = x.face();
            x.under(a, f);
            x.under(f, g);
            x.method(c, 0, TELLS_INT, 0);
            x.field(b, 0, INT, false);
            changesNothing(x, () -> {
                refused(x, "a field, and a method below", x.handle(b, 0, true), LACKING);
                refused(x, "ANY", x.handle(ANY, 0, true), LACKING);
            });
            x.method(a, 1, 0, 0);
            due("a class above has one without a body", x.handle(b, 1, true), 0);
            x.method(f, 2, 0, 0);
            due("a face of it has one without a body", x.handle(b, 2, true), 1);
            x.method(g, 3, 0, 0);
            due("a face of that has one", x.handle(b, 3, true), 2);
        });
        holds(21, "-17 LACKING (no such MEMBER, no BODY)", x -> {
            int c = x.cls(ANY, true);
            due("no such member", x.handle(c, 0, true), -17);
            x.method(c, 0, 0, 0);
            due("no body", x.found(c, 0), -17);
        });
    }

    private static void get() {
        holds(22, "It is READ of a THING: BITS, or the THING's number (NONE)", x -> {
            int c = withField(x, FLOAT);
            x.field(c, 1, c, false);
            int number = ofField(x, c, 0);
            int other = ofField(x, c, 1);
            int t = x.thing(c);
            x.set(number, t, bits(-2f));
            due("bits", x.get(number, t), bits(-2f));
            due("status()", x.status(), 0);
            due("none", x.get(other, t), NONE);
            due("NONE is not refused", x.status(), 0);
            x.set(other, t, t);
            due("a thing", x.get(other, t), t);
        });
        holds(22, "BAD", x -> {
            int c = withField(x, INT);
            int h = ofField(x, c, 0);
            int t = x.thing(c);
            x.get(h, t);
            changesNothing(x, () -> {
                for (int none : new int[] {-1, h + 1, 40, LEAST, MOST}) {
                    lost(x, "handle " + none, x.get(none, t), BAD);
                    lost(x, "BAD ahead of NULL", x.get(none, NONE), BAD);
                }
                for (int none : new int[] {-2, t + 1, 60, LEAST, MOST}) {
                    lost(x, "thing " + none, x.get(h, none), BAD);
                }
            });
        });
        holds(22, "the FINDINGS of READING", x -> {
            int a = x.cls(ANY, true);
            int b = below(x, a);
            x.method(a, 0, 0, 0);
            x.method(b, 1, ASKS, 0);
            int asks = ofMethods(x, b, 1);
            int t = x.thing(b);
            lost(x, "NULL", x.get(asks, NONE), NULL);
            lost(x, "CAST", x.get(asks, x.thing(ANY)), CAST);
            lost(x, "LACKING", x.get(asks, t), LACKING);
        });
    }

    private static void reading() {
        holds(22, "READING one of a THING: of a SHARED FIELD its PLACE, whatever the THING", x -> {
            int c = below(x, ANY);
            x.field(c, 0, INT, true);
            int h = ofField(x, c, 0);
            int[] whatever = {NONE, x.thing(ANY), x.things(INT, 1), x.thing(c)};
            x.set(h, NONE, 9);
            for (int t : whatever) {
                due("of " + t, x.get(h, t), 9);
                due("as a long of " + t, x.getAs(h, t, LONG), 9);
            }
            due("no place of a thing is needed", x.kind(whatever[3], 2), 0);
        });
        holds(22, "else NULL", x -> {
            int c = withField(x, INT);
            x.method(c, 0, TELLS_INT, 1);
            int field = ofField(x, c, 0);
            int method = ofMethods(x, c, 0);
            x.thing(c);
            lost(x, "a field", x.get(field, NONE), NULL);
            lost(x, "a method", x.get(method, NONE), NULL);
        });
        holds(22, "CAST: the THING, ERASED, IS not the CLASS", x -> {
            int a = withField(x, INT);
            int b = below(x, a);
            x.method(a, 0, TELLS_INT, 1);
            int field = ofField(x, b, 0);
            int method = ofMethods(x, b, 0);
            int[] none = {x.thing(a), x.thing(ANY), x.things(b, 1), x.things(INT, 1)};
            for (int t : none) {
                lost(x, "a field of " + t, x.get(field, t), CAST);
                lost(x, "a method of " + t, x.get(method, t), CAST);
            }
            int t = x.thing(below(x, b));
            due("a class below is fine", x.get(field, t), 0);
            due("a class below is fine", x.get(method, t), 1);
        });
        holds(22, "a FIELD's PLACE", x -> {
            int a = withField(x, INT);
            int b = withFieldBelow(x, a);
            int c = withFieldBelow(x, b);
            int t = x.thing(c);
            int other = x.thing(c);
            int[] handles = {ofField(x, a, 0), ofField(x, b, 0), ofField(x, c, 0)};
            for (int k = 0; k < 3; k++) {
                x.set(handles[k], t, 10 + k);
            }
            for (int k = 0; k < 3; k++) {
                due("its own, of three of one name", x.get(handles[k], t), 10 + k);
                due("another thing has its own", x.get(handles[k], other), 0);
            }
        });
        holds(22, "or the BODY that is FOUND for the THING's own CLASS (LACKING, TWO)", x -> {
            int f = x.face();
            int g = x.face();
            int a = below(x, ANY);
            int b = below(x, a);
            int c = x.cls(a, true);
            int d = below(x, c);
            int e = below(x, a);
            x.under(a, f);
            x.under(e, g);
            x.method(f, 0, TELLS_INT, 1);
            x.method(g, 0, TELLS_INT, 2);
            x.method(b, 0, TELLS_INT, 3);
            x.method(c, 0, 0, 0);
            int h = ofMethods(x, a, 0);
            due("lent", x.get(h, x.thing(a)), 1);
            due("its own", x.get(h, x.thing(b)), 3);
            lost(x, "LACKING", x.get(h, x.thing(d)), LACKING);
            due("no body began", x.told(4), 0);
            lost(x, "TWO", x.get(h, x.thing(e)), TWO);
            due("no body began", x.told(4), 0);
        });
    }

    private static int withFieldBelow(QueryHandles x, int above) {
        int c = below(x, above);
        due("its field", x.field(c, 0, INT, false), 0);
        return c;
    }

    private static void bodies() {
        holds(22, "1 tells the FIELD that is MEMBER a of its own CLASS", x -> {
            int a = withField(x, INT);
            int b = withFieldBelow(x, a);
            x.method(a, 0, TELLS_FIELD, 0);
            x.field(b, 1, SHORT, true);
            x.method(b, 1, TELLS_FIELD, 1);
            int t = x.thing(b);
            x.set(ofField(x, a, 0), t, 5);
            x.set(ofField(x, b, 0), t, 6);
            x.set(ofField(x, b, 1), NONE, 7);
            due("of its own class, though it is hidden", x.get(ofMethods(x, b, 0), t), 5);
            due("a shared one", x.get(ofMethods(x, b, 1), t), 7);
            due("its lane", x.lane(), SHORT);
        });
        holds(22, "1 tells the FIELD that is MEMBER a of its own CLASS", x -> {
            for (int type = TRUTH; type <= ANY; type++) {
                int c = withField(x, type);
                x.method(c, 0, TELLS_FIELD, 0);
                x.method(c, 1, ASKS, 0);
                int t = x.thing(c);
                x.set(ofField(x, c, 0), t, 0);
                for (int name = 0; name < 2; name++) {
                    due("type " + type, x.get(ofMethods(x, c, name), t), 0);
                    due("status()", x.status(), 0);
                    due("its lane", x.lane(), type);
                }
            }
        });
        holds(22, "2 ABOVE: the BODY that is FOUND for the CLASS that its own CLASS is below, of its own NAME", x -> {
            int f = x.face();
            int a = below(x, ANY);
            int b = below(x, a);
            int c = below(x, b);
            x.under(a, f);
            x.method(a, 0, TELLS_INT, 1);
            x.method(b, 0, ABOVE, 7);
            x.method(c, 0, ABOVE, 7);
            x.method(f, 1, TELLS_INT, 2);
            x.method(c, 1, ABOVE, 0);
            x.method(c, 2, ABOVE, 0);
            x.method(a, 3, ABOVE, 0);
            int t = x.thing(c);
            due("step by step", x.get(ofMethods(x, c, 0), t), 1);
            due("three bodies", x.told(4), 3);
            due("one that is lent above", x.get(ofMethods(x, c, 1), t), 2);
            lost(x, "none above", x.get(ofMethods(x, c, 2), t), LACKING);
            due("one began", x.told(4), 1);
            lost(x, "none of ANY", x.get(ofMethods(x, c, 3), t), LACKING);
        });
        holds(22, "4 tells a, an int", x -> {
            int c = below(x, ANY);
            int[] numbers = {0, -1, 10, LEAST, MOST};
            for (int n = 0; n < numbers.length; n++) {
                x.method(c, n, TELLS_INT, numbers[n]);
            }
            int t = x.thing(c);
            for (int n = 0; n < numbers.length; n++) {
                due("number", x.get(ofMethods(x, c, n), t), numbers[n]);
                due("its lane", x.lane(), INT);
            }
        });
    }

    private static void asking() {
        holds(22, "3 ASKS the BODY that is FOUND for the THING's CLASS, of NAME a", x -> {
            int a = below(x, ANY);
            int b = below(x, a);
            x.method(a, 0, ASKS, 9);
            x.method(a, 9, TELLS_INT, 1);
            x.method(b, 9, TELLS_INT, 2);
            x.method(a, 5, ASKS, 4);
            x.method(a, 6, ASKS, 9);
            x.method(b, 6, ABOVE, 0);
            int h = ofMethods(x, a, 0);
            due("of the class itself", x.get(h, x.thing(a)), 1);
            int t = x.thing(b);
            due("of the class below, asked from above", x.get(h, t), 2);
            due("of the class below, asked by a body that was asked ABOVE", x.get(ofMethods(x, b, 6), t), 2);
            lost(x, "none of that name", x.get(ofMethods(x, a, 5), t), LACKING);
            due("one began", x.told(4), 1);
        });
        holds(22, "5 likewise as 3, and 1 more, as a long that wraps", x -> {
            int c = withField(x, LONG);
            x.method(c, 0, TELLS_FIELD, 0);
            x.method(c, 1, ASKS_AND_ONE, 0);
            x.method(c, 2, ASKS_AND_ONE, 1);
            x.method(c, 3, TELLS_INT, MOST);
            x.method(c, 4, ASKS_AND_ONE, 3);
            x.method(c, 5, ASKS, 2);
            int t = x.thing(c);
            x.set(ofField(x, c, 0), t, Long.MAX_VALUE);
            due("it wraps", x.get(ofMethods(x, c, 1), t), Long.MIN_VALUE);
            due("and is not refused", x.status(), 0);
            due("a long", x.lane(), LONG);
            due("two more", x.get(ofMethods(x, c, 2), t), Long.MIN_VALUE + 1);
            due("an int does not wrap", x.get(ofMethods(x, c, 4), t), MOST + 1L);
            due("a long", x.lane(), LONG);
            due("asked for two more", x.get(ofMethods(x, c, 5), t), Long.MIN_VALUE + 1);
        });
        holds(22, "(KIND: that was no VALUE of LANES 1 to 5)", x -> {
            for (int type = TRUTH; type <= ANY; type++) {
                int c = withField(x, type);
                x.method(c, 0, TELLS_FIELD, 0);
                x.method(c, 1, ASKS_AND_ONE, 0);
                int h = ofMethods(x, c, 1);
                int t = x.thing(c);
                if (type >= BYTE && type <= LONG) {
                    due("lane " + type, x.get(h, t), 1);
                    due("a long", x.lane(), LONG);
                } else {
                    lost(x, "type " + type, x.get(h, t), KIND);
                    x.set(ofField(x, c, 0), t, t);
                    lost(x, "type " + type + " that is set", x.get(h, t), KIND);
                    due("both began", x.told(4), 2);
                }
            }
        });
    }

    /** As many BODIES, each of a CLASS and asking the one ABOVE; the last tells a number or asks for more. */
    static int chain(QueryHandles x, int bodies, int lastBody) {
        return chainBelow(x, ANY, bodies, lastBody);
    }

    private static int chainBelow(QueryHandles x, int top, int bodies, int lastBody) {
        int c = top;
        for (int n = 0; n < bodies; n++) {
            c = below(x, c);
            x.method(c, 0, n == 0 ? lastBody : ABOVE, 0);
        }
        return c;
    }

    private static void deep() {
        holds(22, "BODIES within one another are 12 at most", x -> {
            int c = chain(x, 12, TELLS_INT);
            due("twelve", x.get(ofMethods(x, c, 0), x.thing(c)), 0);
            due("status()", x.status(), 0);
            due("twelve are traced", x.told(4), 12);
        });
        holds(22, "(DEEP: one more would begin)", x -> {
            int c = chain(x, 13, TELLS_INT);
            lost(x, "thirteen", x.get(ofMethods(x, c, 0), x.thing(c)), DEEP);
            due("twelve are traced", x.told(4), 12);
            int d = chain(x, 1, ASKS);
            lost(x, "without an end", x.get(ofMethods(x, d, 0), x.thing(d)), DEEP);
            due("twelve are traced", x.told(4), 12);
            int e = chain(x, 12, ABOVE);
            lost(x, "a thirteenth that is not found does not begin", x.get(ofMethods(x, e, 0), x.thing(e)), LACKING);
            int f = chain(x, 1, ASKS_AND_ONE);
            lost(x, "without an end, and one more", x.get(ofMethods(x, f, 0), x.thing(f)), DEEP);
        });
        holds(22, "BODIES within one another are 12 at most (DEEP: one more would begin)", x -> {
            int two = below(x, ANY);
            for (int n = 0; n < 2; n++) {
                int f = x.face();
                x.under(two, f);
                x.method(f, 0, TELLS_INT, 0);
            }
            int none = x.cls(ANY, true);
            x.method(none, 0, 0, 0);
            int[] tops = {two, none};
            int[] whys = {TWO, LACKING};
            for (int k = 0; k < 2; k++) {
                int twelve = chainBelow(x, tops[k], 12, ABOVE);
                int h = ofMethods(x, twelve, 0);
                int t = x.thing(twelve);
                lost(x, "where none is found as a thirteenth, none would begin", x.get(h, t), whys[k]);
                due("twelve began", x.told(4), 12);
                lost(x, "likewise as a long", x.getAs(h, t, LONG), whys[k]);
                int thirteen = chainBelow(x, twelve, 1, ABOVE);
                lost(x, "where one is, it would", x.get(h, x.thing(thirteen)), DEEP);
                due("twelve began", x.told(4), 12);
            }
        });
        holds(22, "-18 DEEP", x -> {
            int c = chain(x, 1, ASKS);
            x.get(ofMethods(x, c, 0), x.thing(c));
            due("status()", x.status(), -18);
        });
        holds(22, "-19 TWO (BODIES of two FACES)", x -> {
            int c = below(x, ANY);
            for (int n = 0; n < 2; n++) {
                int f = x.face();
                x.under(c, f);
                x.method(f, 0, TELLS_INT, 0);
            }
            x.get(ofMethods(x, c, 0), x.thing(c));
            due("status()", x.status(), -19);
        });
    }

    private static void lane() {
        holds(23, "The LANE of what the latest get() told that was not refused", x -> {
            int c = below(x, ANY);
            for (int lane = TRUTH; lane <= DOUBLE; lane++) {
                x.field(c, lane, lane, lane % 2 == 0);
                x.handle(c, lane, false);
            }
            int t = x.thing(c);
            for (int lane = TRUTH; lane <= DOUBLE; lane++) {
                x.get(lane, t);
                due("lane()", x.lane(), lane);
                lost(x, "BAD", x.get(lane, t + 1), BAD);
                due("lane() behind BAD", x.lane(), lane);
            }
            lost(x, "NULL", x.get(INT - 1, NONE), NULL);
            due("lane() behind NULL", x.lane(), DOUBLE);
            x.getAs(INT, t, LONG);
            x.query();
            x.test(0, INT, ALIKE, 0, false);
            x.run(0, 0, 60);
            x.total(INT);
            x.column(0, INT, 60);
            x.fill(0, INT);
            x.read(x.things(INT, 1), 0);
            due("lane() is of get() alone", x.lane(), DOUBLE);
        });
        holds(23, "8: a THING, NONE", x -> {
            int c = withField(x, ANY);
            x.field(c, 1, INT, false);
            int h = ofField(x, c, 0);
            int number = ofField(x, c, 1);
            int t = x.thing(c);
            x.get(h, t);
            due("NONE", x.lane(), 8);
            x.get(number, t);
            due("a number between", x.lane(), INT);
            x.set(h, t, t);
            x.get(h, t);
            due("a thing", x.lane(), 8);
        });
        holds(23, "NONE before", x -> {
            due("new", x.lane(), NONE);
            int c = withField(x, INT);
            int h = ofField(x, c, 0);
            int t = x.thing(c);
            x.get(h, NONE);
            due("behind one that was refused", x.lane(), NONE);
            x.getAs(h, t, INT);
            due("behind getAs()", x.lane(), NONE);
        });
    }

    private static void getAs() {
        holds(24, "As get(), WIDENED to a LANE", x -> {
            int c = withField(x, SHORT);
            x.method(c, 0, TELLS_INT, LEAST);
            int field = ofField(x, c, 0);
            int method = ofMethods(x, c, 0);
            int t = x.thing(c);
            x.set(field, t, -9);
            due("a short as itself", x.getAs(field, t, SHORT), -9);
            due("status()", x.status(), 0);
            due("a short as a float", x.getAs(field, t, FLOAT), bits(-9f));
            due("a body as a double", x.getAs(method, t, DOUBLE), bits(-2147483648.0));
            due("its trace", x.trace(0), 100 * c + 1);
            int other = below(x, ANY);
            x.field(other, 0, INT, true);
            due("a shared field of NONE", x.getAs(ofField(x, other, 0), NONE, LONG), 0);
        });
        holds(24, "BAD: also no LANE", x -> {
            int c = withField(x, INT);
            int h = ofField(x, c, 0);
            int t = x.thing(c);
            changesNothing(x, () -> {
                for (int lane : new int[] {-1, ANY, 9, LEAST, MOST}) {
                    lost(x, "lane " + lane, x.getAs(h, t, lane), BAD);
                    lost(x, "BAD ahead of NULL", x.getAs(h, NONE, lane), BAD);
                }
                for (int none : new int[] {-1, h + 1, 40, LEAST, MOST}) {
                    lost(x, "handle " + none, x.getAs(none, t, INT), BAD);
                }
                for (int none : new int[] {-2, t + 1, 60, LEAST, MOST}) {
                    lost(x, "thing " + none, x.getAs(h, none, INT), BAD);
                }
            });
        });
        holds(24, "FINDINGS", x -> {
            int f = x.face();
            int g = x.face();
            x.method(f, 0, TELLS_INT, 0);
            x.method(g, 0, TELLS_INT, 0);
            int a = x.cls(ANY, true);
            int b = below(x, a);
            x.under(a, f);
            x.under(b, g);
            x.method(a, 1, 0, 0);
            x.method(b, 2, ASKS, 2);
            int[] handles = {ofMethods(x, a, 0), ofMethods(x, a, 1), ofMethods(x, b, 2)};
            int[] due = {TWO, LACKING, DEEP};
            int t = x.thing(b);
            readNone(x);
            for (int k = 0; k < 3; k++) {
                lost(x, "a finding of reading", x.getAs(handles[k], t, TRUTH), due[k]);
                lost(x, "NULL", x.getAs(handles[k], NONE, TRUTH), NULL);
                lost(x, "CAST", x.getAs(handles[k], x.thing(ANY), TRUTH), CAST);
            }
        });
        holds(24, "KIND: also a THING, NONE", x -> {
            int c = withField(x, ANY);
            x.field(c, 1, INT, false);
            int thing = ofField(x, c, 0);
            int number = ofField(x, c, 1);
            int t = x.thing(c);
            for (int lane = TRUTH; lane <= DOUBLE; lane++) {
                lost(x, "NONE", x.getAs(thing, t, lane), KIND);
            }
            x.set(thing, t, t);
            for (int lane = TRUTH; lane <= DOUBLE; lane++) {
                lost(x, "a thing", x.getAs(thing, t, lane), KIND);
            }
            lost(x, "what does not widen", x.getAs(number, t, SHORT), KIND);
        });
    }

    private static void set() {
        holds(25, "v is PUT into the FIELD's PLACE of a THING: 1", x -> {
            int a = withField(x, BYTE);
            int b = withFieldBelow(x, a);
            int above = ofField(x, a, 0);
            int own = ofField(x, b, 0);
            int t = x.thing(b);
            due("a number", x.set(above, t, 255), 1);
            due("status()", x.status(), 0);
            due("it", x.get(above, t), -1);
            due("the one that hides it", x.get(own, t), 0);
            int other = below(x, ANY);
            x.field(other, 0, x.row(INT), true);
            int shared = ofField(x, other, 0);
            int row = x.things(INT, 1);
            due("a shared one, of NONE", x.set(shared, NONE, row), 1);
            due("a shared one, of another", x.get(shared, t), row);
            due("NONE", x.set(shared, row, NONE), 1);
            due("it", x.get(shared, t), NONE);
        });
        holds(25, "BAD", x -> {
            int c = withField(x, INT);
            x.method(c, 0, TELLS_INT, 0);
            int h = ofField(x, c, 0);
            int method = ofMethods(x, c, 0);
            int t = x.thing(c);
            changesNothing(x, () -> {
                for (int none : new int[] {-1, method + 1, 40, LEAST, MOST}) {
                    refused(x, "handle " + none, x.set(none, t, 1), BAD);
                }
                for (int none : new int[] {-2, t + 1, 60, LEAST, MOST}) {
                    refused(x, "thing " + none, x.set(h, none, 1), BAD);
                    refused(x, "BAD ahead of NO", x.set(method, none, 1), BAD);
                }
            });
        });
        holds(25, "NO: it is of METHODS", x -> {
            int c = withField(x, INT);
            x.method(c, 0, TELLS_FIELD, 0);
            int h = ofMethods(x, c, 0);
            int t = x.thing(c);
            changesNothing(x, () -> {
                refused(x, "though it tells a field", x.set(h, t, 1), NO);
                refused(x, "NO ahead of NULL", x.set(h, NONE, 1), NO);
            });
            refused(x, "NO ahead of CAST", x.set(h, x.thing(ANY), 1), NO);
        });
    }

    private static void setRefused() {
        holds(25, "NULL, CAST as in READING", x -> {
            int a = withField(x, ANY);
            x.field(a, 1, INT, true);
            int b = below(x, a);
            int h = ofField(x, b, 0);
            int shared = ofField(x, b, 1);
            int above = x.thing(a);
            int row = x.things(b, 1);
            changesNothing(x, () -> {
                refused(x, "NULL", x.set(h, NONE, NONE), NULL);
                refused(x, "NULL ahead of STORE", x.set(h, NONE, 60), NULL);
                refused(x, "CAST", x.set(h, above, NONE), CAST);
                refused(x, "CAST ahead of STORE", x.set(h, above, 60), CAST);
                refused(x, "CAST of a row", x.set(h, row, NONE), CAST);
            });
            due("a shared one knows no NULL", x.set(shared, NONE, 1), 1);
            due("nor CAST", x.set(shared, row, 2), 1);
        });
        holds(25, "STORE", x -> {
            int c = below(x, ANY);
            int d = below(x, c);
            x.field(c, 0, d, false);
            x.field(c, 1, x.row(d), true);
            int h = ofField(x, c, 0);
            int shared = ofField(x, c, 1);
            int t = x.thing(c);
            int fine = x.thing(d);
            int row = x.things(d, 1);
            x.set(h, t, fine);
            x.set(shared, t, row);
            changesNothing(x, () -> {
                for (long v : new long[] {-2, t, row, row + 1, 60, (1L << 32) + fine, Long.MIN_VALUE, Long.MAX_VALUE}) {
                    refused(x, "thing " + v, x.set(h, t, v), STORE);
                }
                for (long v : new long[] {-2, t, fine, row + 1, 60, (1L << 32) + row}) {
                    refused(x, "shared, thing " + v, x.set(shared, NONE, v), STORE);
                }
            });
            due("the old one", x.get(h, t), fine);
            due("the old shared one", x.get(shared, t), row);
        });
        holds(25, "then FINDINGS, in the order told:", x -> {
            int c = withField(x, ANY);
            x.method(c, 0, TELLS_INT, 0);
            int field = ofField(x, c, 0);
            int method = ofMethods(x, c, 0);
            x.thing(c);
            int other = x.thing(ANY);
            refused(x, "BAD ahead of all", x.set(method, 2, 60), BAD);
            refused(x, "NO ahead of NULL", x.set(method, NONE, 60), NO);
            refused(x, "NULL ahead of STORE", x.set(field, NONE, 60), NULL);
            refused(x, "CAST ahead of STORE", x.set(field, other, 60), CAST);
            refused(x, "STORE", x.set(field, 0, 60), STORE);
        });
    }
}
