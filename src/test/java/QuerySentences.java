/** Promises 31 to 36, sentence by sentence. */
final class QuerySentences extends Sentences {
    private QuerySentences() { }

    static void all() {
        query();
        test();
        run();
        runRefused();
        joined();
        notRead();
        compared();
        comparedAsDoubles();
        hit();
        failed();
        total();
        totalFinds();
    }

    /** A CLASS of THINGS from 0 on, whose FIELD of that LANE is seen by HANDLE 0; QUERY 0. */
    private static int with(QueryHandles x, int lane, long... values) {
        int c = withField(x, lane);
        x.handle(c, 0, false);
        x.query();
        for (long v : values) {
            x.set(0, x.thing(c), v);
        }
        return c;
    }

    private static void hits(QueryHandles x, String what, int answer, int... hits) {
        due(what, answer, hits.length);
        due(what + ", status()", x.status(), 0);
        for (int k = 0; k < hits.length; k++) {
            due(what + ", hit " + k, x.hit(k), hits[k]);
        }
        due(what + ", no more hits", x.hit(hits.length), BAD);
    }

    private static void query() {
        holds(31, "A QUERY without TESTS: its number", x -> {
            due("the first", x.query(), 0);
            due("status()", x.status(), 0);
            due("the next", x.query(), 1);
            refused(x, "without tests", x.run(1, 0, 60), NO);
        });
        holds(31, "QUERIES, 20 at most", x -> {
            with(x, INT);
            for (int n = 1; n < 20; n++) {
                due("query", x.query(), n);
            }
            refused(x, "a twenty-first", x.query(), FULL);
            due("the last gets a test", x.test(19, 0, ALIKE, 0, false), 1);
            refused(x, "no more", x.test(20, 0, ALIKE, 0, false), BAD);
        });
        holds(31, "FULL", x -> {
            for (int n = 0; n < 20; n++) {
                x.query();
            }
            changesNothing(x, () -> refused(x, "one more", x.query(), FULL));
        });
    }

    private static void test() {
        holds(32, "A TEST more: how many", x -> {
            with(x, INT);
            x.query();
            due("the first", x.test(0, 0, BELOW, 0, false), 1);
            due("status()", x.status(), 0);
            due("the second", x.test(0, 0, BELOW, 0, true), 2);
            due("of another query", x.test(1, 0, BELOW, 0, true), 1);
        });
        holds(32, "have up to 8 TESTS", x -> {
            with(x, INT, 5, 6);
            for (int n = 1; n < 8; n++) {
                due("test", x.test(0, 0, AT_LEAST, 0, false), n);
            }
            due("the eighth", x.test(0, 0, OVER, 5, false), 8);
            hits(x, "it is one of them", x.run(0, 0, 60), 1);
        });
        holds(32, "BAD", x -> {
            with(x, INT, 5);
            x.test(0, 0, ALIKE, 5, false);
            changesNothing(x, () -> {
                for (int none : new int[] {-1, 1, 20, LEAST, MOST}) {
                    refused(x, "query " + none, x.test(none, 0, ALIKE, 0, false), BAD);
                    refused(x, "handle " + none, x.test(0, none, ALIKE, 0, false), BAD);
                }
                for (int op : new int[] {-1, 6, LEAST, MOST}) {
                    refused(x, "op " + op, x.test(0, 0, op, 0, false), BAD);
                }
            });
            hits(x, "none came", x.run(0, 0, 60), 0);
        });
        holds(32, "FULL", x -> {
            with(x, INT, 5);
            for (int n = 1; n <= 8; n++) {
                x.test(0, 0, ALIKE, 5, false);
            }
            changesNothing(x, () -> {
                refused(x, "a ninth", x.test(0, 0, UNLIKE, 5, false), FULL);
                refused(x, "BAD ahead of FULL", x.test(0, 0, 6, 5, false), BAD);
            });
            hits(x, "none came", x.run(0, 0, 60), 0);
        });
        holds(32, "a HANDLE, an op (0 below, 1 at most, 2 alike, 3 unlike, 4 at least, 5 above), a number, a"
            + " long", x -> {
            with(x, LONG, Long.MIN_VALUE, Long.MAX_VALUE - 1, Long.MAX_VALUE);
            int[][] due = {{0}, {0, 1}, {1}, {0, 2}, {1, 2}, {2}};
            for (int op = BELOW; op <= OVER; op++) {
                int q = x.query();
                x.test(q, 0, op, Long.MAX_VALUE - 1, false);
                hits(x, "op " + op, x.run(q, 0, 60), due[op]);
            }
        });
        holds(32, "and whether it is an OR or an AND (of the first one that is of no matter)", x -> {
            with(x, INT, 1, 2, 3);
            for (int first = 0; first < 2; first++) {
                int and = x.query();
                x.test(and, 0, AT_LEAST, 2, first == 1);
                hits(x, "the first alone", x.run(and, 0, 60), 1, 2);
                x.test(and, 0, AT_MOST, 2, false);
                hits(x, "and", x.run(and, 0, 60), 1);
                int or = x.query();
                x.test(or, 0, OVER, 2, first == 1);
                x.test(or, 0, BELOW, 2, true);
                hits(x, "or", x.run(or, 0, 60), 0, 2);
            }
        });
    }

    private static void run() {
        holds(33, "The HITS among the THINGS from first on, n numbers (0 .. 60)", x -> {
            with(x, INT, 1, 1, 1, 1);
            x.test(0, 0, ALIKE, 1, false);
            hits(x, "all", x.run(0, 0, 60), 0, 1, 2, 3);
            hits(x, "none", x.run(0, 0, 0));
            hits(x, "one", x.run(0, 0, 1), 0);
            hits(x, "from 1 on two", x.run(0, 1, 2), 1, 2);
            hits(x, "the last", x.run(0, 3, 60), 3);
            hits(x, "none from 2 on", x.run(0, 2, 0));
        });
        holds(33, "that there are", x -> {
            int c = with(x, INT, 1, 1);
            x.test(0, 0, ALIKE, 1, false);
            hits(x, "behind the last", x.run(0, 2, 60));
            hits(x, "the last number", x.run(0, 59, 60));
            hits(x, "across the end", x.run(0, 1, 60), 1);
            for (int t = 2; t < 60; t++) {
                x.set(0, x.thing(c), 1);
            }
            due("all sixty", x.run(0, 0, 60), 60);
            due("the last hit", x.hit(59), 59);
            hits(x, "the last of sixty", x.run(0, 59, 60), 59);
        });
        holds(33, "and that ARE the CLASS of the first TEST's HANDLE: how many", x -> {
            int a = withField(x, INT);
            int b = below(x, a);
            int c = below(x, b);
            int first = ofField(x, b, 0);
            int second = ofField(x, a, 0);
            for (int cls : new int[] {a, b, ANY, c}) {
                x.thing(cls);
                x.things(cls, 1);
            }
            x.query();
            x.test(0, first, ALIKE, 0, false);
            x.test(0, second, ALIKE, 0, false);
            hits(x, "of b and below", x.run(0, 0, 60), 2, 6);
            x.query();
            x.test(1, second, ALIKE, 0, false);
            hits(x, "of a and below", x.run(1, 0, 60), 0, 2, 6);
            x.test(1, first, ALIKE, 0, false);
            refused(x, "the second test's handle casts", x.run(1, 0, 60), CAST);
            int other = below(x, ANY);
            x.field(other, 0, INT, true);
            x.query();
            x.test(2, ofField(x, other, 0), ALIKE, 0, false);
            hits(x, "a shared field, of its class alone", x.run(2, 0, 60));
        });
        holds(33, "the first FINDING ends it (HITS ahead stay)", x -> {
            int a = withField(x, INT);
            int b = below(x, a);
            x.method(a, 0, TELLS_FIELD, 0);
            x.method(b, 0, ASKS, 0);
            int h = ofMethods(x, a, 0);
            for (int n = 0; n < 5; n++) {
                x.thing(n == 2 ? b : a);
            }
            x.query();
            x.test(0, h, ALIKE, 0, false);
            refused(x, "DEEP", x.run(0, 0, 60), DEEP);
            due("two hits ahead", x.told(5), 2);
            due("the second", x.hit(1), 1);
            due("no third", x.hit(2), BAD);
            due("fourteen bodies", x.told(4), 14);
            HandleSentences.readNone(x);
            refused(x, "at the first", x.run(0, 2, 60), DEEP);
            due("no hits ahead", x.told(5), 0);
            hits(x, "behind it", x.run(0, 3, 60), 3, 4);
        });
    }

    private static void runRefused() {
        holds(33, "BAD: first is not 0 .. 59", x -> {
            with(x, INT, 1);
            x.test(0, 0, ALIKE, 1, false);
            x.run(0, 0, 60);
            changesNothing(x, () -> {
                for (int first : new int[] {-1, 60, LEAST, MOST}) {
                    refused(x, "first " + first, x.run(0, first, 1), BAD);
                    refused(x, "first " + first + ", none", x.run(0, first, 0), BAD);
                }
                for (int n : new int[] {-1, 61, LEAST, MOST}) {
                    refused(x, "n " + n, x.run(0, 0, n), BAD);
                    refused(x, "n " + n + " from 59 on", x.run(0, 59, n), BAD);
                }
                for (int none : new int[] {-1, 1, 20, LEAST, MOST}) {
                    refused(x, "query " + none, x.run(none, 0, 60), BAD);
                }
            });
        });
        holds(33, "NO: no TESTS", x -> {
            with(x, INT, 1);
            x.test(0, 0, ALIKE, 1, false);
            x.run(0, 0, 60);
            x.query();
            changesNothing(x, () -> {
                refused(x, "no tests", x.run(1, 0, 60), NO);
                refused(x, "no tests, no numbers", x.run(1, 59, 0), NO);
                refused(x, "BAD ahead of NO", x.run(1, 60, 60), BAD);
                refused(x, "BAD ahead of NO", x.run(1, 0, 61), BAD);
            });
        });
    }

    private static void joined() {
        holds(33, "A THING is a HIT, if they hold: from the first on, each with what came of those ahead", x -> {
            with(x, INT, 0, 1, 2, 3, 4);
            x.test(0, 0, ALIKE, 1, false);
            x.test(0, 0, ALIKE, 3, true);
            x.test(0, 0, OVER, 2, false);
            hits(x, "(= 1 or = 3) and > 2", x.run(0, 0, 60), 3);
            x.test(0, 0, ALIKE, 0, true);
            hits(x, ".. or = 0", x.run(0, 0, 60), 0, 3);
            x.test(0, 0, BELOW, 3, false);
            hits(x, ".. and < 3", x.run(0, 0, 60), 0);
            int q = x.query();
            x.test(q, 0, AT_MOST, 1, false);
            x.test(q, 0, AT_LEAST, 1, false);
            x.test(q, 0, ALIKE, 4, true);
            hits(x, "<= 1 and >= 1 or = 4", x.run(q, 0, 60), 1, 4);
        });
    }

    private static void notRead() {
        holds(33, "an AND behind what is not so", x -> {
            int c = with(x, INT, 0, 1);
            x.query();
            int never = ofField(x, below(x, c), 0);
            x.test(0, 0, ALIKE, 1, false);
            x.test(0, never, ALIKE, 1, false);
            x.test(0, never, ALIKE, 1, false);
            hits(x, "not so: the rest is not read", x.run(0, 0, 1));
            refused(x, "so: the next is read", x.run(0, 1, 1), CAST);
            x.test(1, 0, ALIKE, 1, false);
            x.test(1, never, ALIKE, 1, false);
            x.test(1, 0, ALIKE, 0, true);
            hits(x, "not so, an OR behind it is read", x.run(1, 0, 1), 0);
        });
        holds(33, "an OR behind what is so is not READ", x -> {
            int c = with(x, INT, 0, 1);
            x.query();
            int never = ofField(x, below(x, c), 0);
            x.test(0, 0, ALIKE, 1, false);
            x.test(0, never, ALIKE, 1, true);
            x.test(0, never, ALIKE, 1, true);
            hits(x, "so: the rest is not read", x.run(0, 1, 1), 1);
            refused(x, "not so: the next is read", x.run(0, 0, 1), CAST);
            x.test(1, 0, ALIKE, 1, false);
            x.test(1, never, ALIKE, 1, true);
            x.test(1, 0, ALIKE, 0, false);
            hits(x, "so, an AND behind it is read", x.run(1, 1, 1));
        });
    }

    /** The HITS by each op of one number: "012" are the THINGS below, alike and above it. */
    private static void each(QueryHandles x, int lane, long number, long... values) {
        int c = withField(x, lane);
        int h = ofField(x, c, 0);
        int first = x.told(1);
        for (long v : values) {
            x.set(h, x.thing(c), v);
        }
        int[][] due = {{0}, {0, 1}, {1}, {0, 2}, {1, 2}, {2}};
        for (int op = BELOW; op <= OVER; op++) {
            int q = x.query();
            x.test(q, h, op, number, false);
            int[] hits = due[op].clone();
            for (int k = 0; k < hits.length; k++) {
                hits[k] += first;
            }
            hits(x, "lane " + lane + ", op " + op + ", number " + number, x.run(q, first, 3), hits);
        }
    }

    private static void compared() {
        holds(33, "LANES 0 to 5 are compared as longs (a truth 1, 0)", x -> {
            each(x, BYTE, 5, -128, 5, 127);
            each(x, LONG, (1L << 53) + 1, 1L << 53, (1L << 53) + 1, (1L << 53) + 2);
            each(x, CHAR, 32768, 32767, 32768, 65535);
        });
        holds(33, "LANES 0 to 5 are compared as longs (a truth 1, 0)", x -> {
            with(x, TRUTH, 0, 1, 9);
            long[] numbers = {1, 0, 2, Long.MIN_VALUE, 9};
            int[][] due = {{1, 2}, {0}, {}, {}, {}};
            for (int k = 0; k < numbers.length; k++) {
                int q = x.query();
                x.test(q, 0, ALIKE, numbers[k], false);
                hits(x, "truth alike " + numbers[k], x.run(q, 0, 60), due[k]);
            }
            int q = x.query();
            x.test(q, 0, AT_LEAST, 1, false);
            hits(x, "at least 1", x.run(q, 0, 60), 1, 2);
        });
        holds(33, "LANES 0 to 5 are compared as longs (a truth 1, 0)", x -> {
            with(x, INT, -1, 0, 1);
            int[][] due = {{}, {}, {}, {0, 1, 2}, {0, 1, 2}, {0, 1, 2}};
            for (int op = BELOW; op <= OVER; op++) {
                int q = x.query();
                x.test(q, 0, op, Long.MIN_VALUE, false);
                hits(x, "op " + op + " of the least number", x.run(q, 0, 60), due[op]);
            }
        });
        holds(33, "a THING, NONE: KIND", x -> {
            with(x, ANY, NONE);
            int t = x.things(INT, 1);
            for (int op = BELOW; op <= OVER; op++) {
                int q = x.query();
                x.test(q, 0, op, NONE, false);
                refused(x, "NONE", x.run(q, 0, 60), KIND);
                x.set(0, 0, t);
                refused(x, "a thing", x.run(q, 0, 60), KIND);
                due("failed()", x.failed(), 0);
                x.set(0, 0, NONE);
            }
        });
    }

    private static void comparedAsDoubles() {
        holds(33, "6, 7 as doubles with the number as a double", x -> {
            each(x, DOUBLE, 0, bits(-0.5), Long.MIN_VALUE, 1);
            each(x, FLOAT, 2, bits(Float.NEGATIVE_INFINITY), bits(2f), ENDLESS_FLOAT);
            each(x, DOUBLE, (1L << 53) + 1, bits(0x1p53 - 1), bits(0x1p53), bits(0x1p53 + 2));
        });
        holds(33, "6, 7 as doubles with the number as a double", x -> {
            each(x, DOUBLE, Long.MIN_VALUE, bits(-1e300), bits(-0x1p63), bits(-1e18));
            each(x, FLOAT, Long.MAX_VALUE, bits(0x1p62f), bits(0x1p63f), bits(Float.MAX_VALUE));
            each(x, FLOAT, 0, 0x80000001L, 0x80000000L, 1);
        });
        holds(33, "6, 7 as doubles with the number as a double", x -> {
            with(x, DOUBLE, NO_DOUBLE);
            int other = below(x, ANY);
            x.field(other, 0, FLOAT, true);
            int shared = ofField(x, other, 0);
            x.set(shared, NONE, NO_FLOAT);
            for (int op = BELOW; op <= OVER; op++) {
                int q = x.query();
                x.test(q, 0, op, 0, false);
                hits(x, "what is no number, op " + op, x.run(q, 0, 60), op == UNLIKE ? new int[] {0} : new int[0]);
                int r = x.query();
                x.test(r, 0, UNLIKE, 0, false);
                x.test(r, shared, op, 0, false);
                hits(x, "a float, op " + op, x.run(r, 0, 60), op == UNLIKE ? new int[] {0} : new int[0]);
            }
        });
    }

    private static void hit() {
        holds(34, "HIT k of the latest run() that was not BAD, NO", x -> {
            with(x, INT, 1, 0, 1);
            x.test(0, 0, ALIKE, 1, false);
            x.query();
            x.run(0, 0, 60);
            due("the first", x.hit(0), 0);
            due("the second", x.hit(1), 2);
            refused(x, "BAD", x.run(0, 60, 60), BAD);
            due("behind BAD", x.hit(1), 2);
            refused(x, "NO", x.run(1, 0, 60), NO);
            due("behind NO", x.hit(1), 2);
            x.run(0, 1, 60);
            due("of the next run", x.hit(0), 2);
            due("which has one", x.hit(1), BAD);
        });
        holds(34, "BAD: none such", x -> {
            due("before a run", x.hit(0), BAD);
            with(x, INT, 1, 1);
            x.test(0, 0, ALIKE, 1, false);
            x.run(0, 0, 60);
            for (int k : new int[] {-1, 2, 60, LEAST, MOST}) {
                due("hit " + k, x.hit(k), BAD);
            }
            due("the last", x.hit(1), 1);
        });
    }

    private static void failed() {
        holds(35, "The THING at which that ended by a FINDING", x -> {
            int a = below(x, ANY);
            int b = below(x, a);
            x.method(a, 0, TELLS_INT, 0);
            x.method(b, 0, ASKS, 0);
            x.handle(a, 0, true);
            x.query();
            x.query();
            x.test(0, 0, ALIKE, 0, false);
            for (int n = 0; n < 5; n++) {
                x.thing(n == 0 || n == 3 ? b : a);
            }
            refused(x, "at 3", x.run(0, 1, 60), DEEP);
            due("failed()", x.failed(), 3);
            refused(x, "BAD", x.run(0, -1, 60), BAD);
            due("behind BAD", x.failed(), 3);
            refused(x, "NO", x.run(1, 0, 60), NO);
            due("behind NO", x.failed(), 3);
            refused(x, "at 0", x.run(0, 0, 60), DEEP);
            due("failed()", x.failed(), 0);
            lost(x, "get()", x.get(0, 3), DEEP);
            due("is of run() alone", x.failed(), 0);
        });
        holds(35, "NONE", x -> {
            due("new", x.failed(), NONE);
            with(x, ANY, NONE);
            x.test(0, 0, ALIKE, 0, false);
            x.run(0, 0, 60);
            due("a run that failed", x.failed(), 0);
            hits(x, "one that did not", x.run(0, 1, 60));
            due("behind it", x.failed(), NONE);
        });
    }

    private static void total() {
        holds(36, "The HITS are READ by a HANDLE: their sum as LANES 0 to 5, a long that wraps", x -> {
            int c = below(x, ANY);
            for (int lane = TRUTH; lane <= LONG; lane++) {
                x.field(c, lane, lane, false);
                x.handle(c, lane, false);
            }
            x.method(c, 0, TELLS_INT, MOST);
            x.handle(c, 0, true);
            x.query();
            x.test(0, TRUTH, ALIKE, 1, false);
            due("no hits before a run", x.total(INT), 0);
            for (int t = 0; t < 4; t++) {
                x.thing(c);
                for (int lane = TRUTH; lane <= LONG; lane++) {
                    x.set(lane, t, lane == TRUTH ? t % 2 : Long.MAX_VALUE);
                }
            }
            x.run(0, 0, 60);
            due("hits", x.told(5), 2);
            long[] due = {2, -2, -2, 131070, -2, -2};
            for (int lane = TRUTH; lane <= LONG; lane++) {
                due("lane " + lane, x.total(lane), due[lane]);
                due("status()", x.status(), 0);
            }
            due("a body", x.total(6), 2L * MOST);
            x.set(LONG, 3, Long.MIN_VALUE);
            x.set(LONG, 1, 0);
            due("what looks lost", x.total(LONG), Long.MIN_VALUE);
            due("is not refused", x.status(), 0);
        });
        holds(36, "BAD", x -> {
            with(x, INT, 1);
            x.test(0, 0, ALIKE, 1, false);
            x.run(0, 0, 60);
            changesNothing(x, () -> {
                for (int none : new int[] {-1, 1, 40, LEAST, MOST}) {
                    lost(x, "handle " + none, x.total(none), BAD);
                }
            });
        });
    }

    private static void totalFinds() {
        holds(36, "FINDINGS", x -> {
            int a = withField(x, INT);
            int b = below(x, a);
            x.method(a, 1, TELLS_INT, 5);
            x.method(b, 1, ASKS, 1);
            x.method(a, 2, ASKS, 3);
            x.handle(a, 0, false);
            x.query();
            x.test(0, 0, ALIKE, 0, false);
            x.thing(a);
            x.thing(b);
            x.run(0, 0, 60);
            lost(x, "DEEP", x.total(ofMethods(x, a, 1)), DEEP);
            due("thirteen bodies", x.told(4), 13);
            HandleSentences.readNone(x);
            lost(x, "LACKING", x.total(ofMethods(x, a, 2)), LACKING);
            lost(x, "CAST", x.total(ofField(x, b, 0)), CAST);
            due("the hits stay", x.told(5), 2);
            due("no run failed", x.failed(), NONE);
        });
        holds(36, "KIND: another LANE, a THING, NONE", x -> {
            int c = with(x, INT);
            x.field(c, 1, FLOAT, false);
            x.field(c, 2, DOUBLE, false);
            x.field(c, 3, ANY, false);
            x.test(0, 0, ALIKE, 0, false);
            int[] handles = {ofField(x, c, 1), ofField(x, c, 2), ofField(x, c, 3)};
            for (int h : handles) {
                due("no hits: not read", x.total(h), 0);
                due("status()", x.status(), 0);
            }
            int t = x.thing(c);
            x.run(0, 0, 60);
            for (int h : handles) {
                lost(x, "handle " + h, x.total(h), KIND);
            }
            x.set(handles[2], t, t);
            lost(x, "a thing", x.total(handles[2]), KIND);
        });
    }
}
