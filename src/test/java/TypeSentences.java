/** Promises 1 to 8, sentence by sentence. */
final class TypeSentences extends Sentences {
    private TypeSentences() { }

    static void all() {
        newObject();
        refusals();
        classes();
        faces();
        under();
        underRefused();
        variables();
        rows();
        erased();
        is();
        isOfLikeDepth();
    }

    private static void newObject() {
        holds(1, "The LANES and ANY alone", x -> {
            for (int type = 0; type <= ANY; type++) {
                due("base of " + type, x.erased(type, 0), type);
                due("depth of " + type, x.erased(type, 1), 0);
            }
            refused(x, "there is no type 9", x.erased(9, 0), BAD);
            refused(x, "there is no thing 0", x.kind(0, 0), BAD);
            lost(x, "there is no handle 0", x.get(0, NONE), BAD);
            refused(x, "there is no query 0", x.run(0, 0, 0), BAD);
            for (int what = 0; what < 8; what++) {
                due("told(" + what + ")", x.told(what), 0);
            }
            due("digest()", x.digest(), 17);
        });
        holds(1, "An object is used for at most 512 calls after it has been made; what later calls answer"
            + " is free.", x -> {
            for (int n = 0; n < 510; n++) {
                due("call " + n, x.is(n % 9, n % 9), 1);
            }
            due("call 511", x.cls(ANY, false), 9);
            due("call 512", x.thing(9), 0);
        });
        holds(1, "TYPES are numbers: 0 .. 7 the LANES truth, byte, short, char, int, long, float, double", x -> {
            long[] kept = {1, -2, -2, 65534, -2, -2, NO_FLOAT, NO_DOUBLE};
            for (int lane = TRUTH; lane <= DOUBLE; lane++) {
                int row = x.things(lane, 1);
                x.write(row, 0, -2);
                due("-2 as lane " + lane, x.read(row, 0), kept[lane]);
            }
            refused(x, "type -1", x.erased(-1, 0), BAD);
        });
        holds(1, "8 ANY, a CLASS without MEMBERS", x -> {
            due("a class below it", x.cls(ANY, false), 9);
            due("a thing of it", x.thing(ANY), 0);
            due("no places", x.kind(0, 2), 0);
            for (int name = 0; name < 10; name++) {
                refused(x, "found", x.found(ANY, name), LACKING);
                refused(x, "seen", x.seen(ANY, name), LACKING);
            }
        });
    }

    private static void refusals() {
        holds(2, "Calls answer, the first of these that fits: BAD -1 (a number is not as told, there is no"
            + " such TYPE, THING and so on)", x -> {
            int c = below(x, ANY);
            makeAllTypes(x);
            changesNothing(x, () -> {
                refused(x, "cls(): BAD ahead of FULL", x.cls(INT, false), BAD);
                refused(x, "variable(): BAD ahead of FULL", x.variable(c, INT), BAD);
                refused(x, "row(): BAD ahead of FULL", x.row(100), BAD);
            });
        });
        holds(4, "FULL -2, NO -3 (as told)", x -> {
            int c = below(x, ANY);
            for (int n = 0; n < 4; n++) {
                x.under(c, x.face());
            }
            x.thing(c);
            refused(x, "FULL ahead of NO", x.under(c, c + 1), FULL);
            refused(x, "BAD ahead of both", x.under(c, c), BAD);
        });
    }

    private static void classes() {
        holds(2, "A new CLASS below a CLASS, OPEN or not: its TYPE", x -> {
            due("below ANY", x.cls(ANY, true), 9);
            due("status()", x.status(), 0);
            due("below that", x.cls(9, false), 10);
            due("it is what it is below", x.is(10, 9), 1);
            due("not the other way", x.is(9, 10), 0);
            refused(x, "the first is open", x.thing(9), NO);
            due("the second is not", x.thing(10), 0);
            due("below one that is closed", x.cls(10, false), 11);
        });
        holds(2, "BAD: above is no CLASS", x -> {
            int c = below(x, ANY);
            int[] none = {x.face(), x.variable(c, c), x.row(c), TRUTH, DOUBLE, -1, -2, c + 4, 99, 100, LEAST, MOST};
            changesNothing(x, () -> {
                for (int above : none) {
                    refused(x, "below " + above, x.cls(above, false), BAD);
                }
            });
        });
        holds(2, "FULL", x -> {
            for (int n = 9; n < 100; n++) {
                due("class", x.cls(n - 1, false), n);
            }
            changesNothing(x, () -> {
                refused(x, "one more", x.cls(ANY, false), FULL);
                refused(x, "once more", x.cls(99, true), FULL);
            });
            due("the last is a class", x.thing(99), 0);
        });
        holds(2, "from 9 on as they are made, 99 the last: CLASSES, FACES, VARIABLES, ROWS", x -> {
            due("a class", x.cls(ANY, false), 9);
            due("a face", x.face(), 10);
            due("a variable", x.variable(9, 10), 11);
            due("a row", x.row(11), 12);
            refused(x, "not 13 yet", x.erased(13, 0), BAD);
            for (int n = 13; n < 99; n++) {
                x.face();
            }
            due("the last", x.cls(9, false), 99);
            refused(x, "no more classes", x.cls(9, false), FULL);
            refused(x, "no more faces", x.face(), FULL);
            refused(x, "no more variables", x.variable(9, 9), FULL);
            refused(x, "no more rows", x.row(9), FULL);
            refused(x, "there is no 100", x.erased(100, 0), BAD);
        });
        holds(2, "A CLASS is below one CLASS; it may be OPEN", x -> {
            int a = x.cls(ANY, true);
            int b = below(x, ANY);
            int c = x.cls(a, false);
            due("below a", x.is(c, a), 1);
            due("not below b", x.is(c, b), 0);
            refused(x, "an open one has no things", x.thing(a), NO);
            due("one below an open one need not be open", x.thing(c), 0);
        });
    }

    private static void faces() {
        holds(3, "A new FACE: its TYPE", x -> {
            due("the first", x.face(), 9);
            due("status()", x.status(), 0);
            due("the next", x.face(), 10);
            due("no class", x.told(7), 0);
            refused(x, "a class below it", x.cls(9, false), BAD);
            refused(x, "a thing of it", x.thing(9), BAD);
            due("a face of it", x.under(9, 10), 1);
        });
        holds(3, "FULL", x -> {
            for (int n = 9; n < 100; n++) {
                due("face", x.face(), n);
            }
            changesNothing(x, () -> refused(x, "one more", x.face(), FULL));
            due("the last is a face", x.under(9, 99), 1);
        });
    }

    private static void under() {
        holds(4, "A CLASS or FACE gets a FACE: how many it has told", x -> {
            int c = below(x, ANY);
            int f = x.face();
            int g = x.face();
            due("a class", x.under(c, f), 1);
            due("status()", x.status(), 0);
            due("a second one", x.under(c, g), 2);
            due("a face", x.under(f, g), 1);
            due("c is f", x.is(c, f), 1);
            due("f is g", x.is(f, g), 1);
        });
        holds(4, "CLASSES (but ANY) and FACES have up to 4 FACES told", x -> {
            for (int n = 0; n < 5; n++) {
                x.face();
            }
            int c = below(x, ANY);
            int d = x.cls(c, false);
            for (int f = 9; f < 13; f++) {
                due("a class", x.under(c, f), f - 8);
                due("a class below it has four of its own", x.under(d, f), f - 8);
                due("a face", x.under(13, f), f - 8);
            }
            for (int f = 9; f < 13; f++) {
                due("all four are faces of the class", x.is(c, f), 1);
                due("all four are faces of the face", x.is(13, f), 1);
            }
            refused(x, "ANY", x.under(ANY, 9), BAD);
        });
        holds(4, "FACES OF a CLASS or FACE: those told of it, in order, each with the FACES OF it right"
            + " behind it", x -> {
            int top = x.face();
            int mid = x.face();
            int low = x.face();
            int c = below(x, ANY);
            x.under(c, low);
            due("told later on", x.under(low, mid), 1);
            due("and later still", x.under(mid, top), 1);
            for (int upper : new int[] {low, mid, top}) {
                due("of the class", x.is(c, upper), 1);
                due("of the lowest face", x.is(low, upper), 1);
            }
            due("not the other way", x.is(top, mid), 0);
            due("nor two steps", x.is(top, low), 0);
        });
        holds(4, "of a CLASS then those of the CLASSES above it, likewise", x -> {
            int f = x.face();
            int g = x.face();
            int a = below(x, ANY);
            int b = below(x, a);
            x.under(a, f);
            x.under(f, g);
            due("the face of the class above", x.is(b, f), 1);
            due("and what that is", x.is(b, g), 1);
            int h = x.face();
            x.under(b, h);
            due("not those of the class below", x.is(a, h), 0);
        });
        holds(4, "each once, where it comes first", x -> {
            int top = x.face();
            int left = x.face();
            int right = x.face();
            int a = below(x, ANY);
            int b = below(x, a);
            x.under(left, top);
            x.under(right, top);
            x.under(b, left);
            x.under(b, right);
            x.under(a, top);
            x.method(top, 0, TELLS_INT, 1);
            due("three ways to one body are not two bodies", x.found(b, 0), 100 * top);
            x.thing(b);
            due("closed are a, b, ANY and three faces", x.told(6), 6);
        });
    }

    private static void underRefused() {
        holds(4, "BAD: other TYPES, ANY", x -> {
            int c = below(x, ANY);
            int f = x.face();
            int[] others = {ANY, TRUTH, DOUBLE, x.variable(c, f), x.row(c), x.row(f), -1, 50, 100, LEAST, MOST};
            changesNothing(x, () -> {
                for (int other : others) {
                    refused(x, "to " + other, x.under(other, f), BAD);
                    refused(x, "as a face " + other, x.under(c, other), BAD);
                }
                refused(x, "a class as a face", x.under(f, c), BAD);
            });
            due("none was told", x.under(c, f), 1);
        });
        holds(4, "FULL: 4", x -> {
            for (int n = 0; n < 6; n++) {
                x.face();
            }
            int c = below(x, ANY);
            for (int f = 9; f < 13; f++) {
                x.under(c, f);
                x.under(13, f);
            }
            changesNothing(x, () -> {
                refused(x, "a fifth of a class", x.under(c, 13), FULL);
                refused(x, "a fifth of a face", x.under(13, 14), FULL);
                refused(x, "FULL ahead of what it has", x.under(c, 9), FULL);
                refused(x, "FULL ahead of itself", x.under(13, 13), FULL);
            });
            due("it is none of the class", x.is(c, 13), 0);
            due("it is none of the face", x.is(13, 14), 0);
        });
        holds(4, "NO: CLOSED", x -> {
            int f = x.face();
            int g = x.face();
            int late = x.face();
            int a = below(x, ANY);
            int b = below(x, a);
            int c = below(x, b);
            x.under(a, f);
            x.under(f, g);
            x.thing(b);
            changesNothing(x, () -> {
                for (int type : new int[] {a, b, f, g}) {
                    refused(x, "closed " + type, x.under(type, late), NO);
                }
            });
            due("a class below is not closed", x.under(c, late), 1);
            due("a face that is none of its is not closed", x.under(late, f), 1);
        });
        holds(4, "it has it told", x -> {
            int f = x.face();
            int g = x.face();
            int a = below(x, ANY);
            int b = below(x, a);
            x.under(a, f);
            x.under(f, g);
            changesNothing(x, () -> {
                refused(x, "a class", x.under(a, f), NO);
                refused(x, "a face", x.under(f, g), NO);
            });
            due("what is above has it told, not it", x.under(b, f), 1);
            due("what it has told has it told, not it", x.under(a, g), 2);
        });
        holds(4, "of a FACE: they are one", x -> {
            int f = x.face();
            changesNothing(x, () -> refused(x, "itself", x.under(f, f), NO));
        });
        holds(4, "or it is among the FACES OF that one", x -> {
            int top = x.face();
            int mid = x.face();
            int low = x.face();
            x.under(low, mid);
            x.under(mid, top);
            changesNothing(x, () -> {
                refused(x, "a ring of two", x.under(mid, low), NO);
                refused(x, "a ring of three", x.under(top, low), NO);
            });
            due("they are not each other", x.is(top, low), 0);
            due("a second way up is no ring", x.under(low, top), 2);
        });
    }

    private static void variables() {
        holds(5, "A new VARIABLE of a CLASS with a BOUND: its TYPE", x -> {
            due("class", x.cls(ANY, true), 9);
            due("bound to its own class", x.variable(9, 9), 10);
            due("status()", x.status(), 0);
            due("a second one is a new one", x.variable(9, 9), 11);
            due("no class was made", x.told(7), 1);
            x.thing(below(x, 9));
            due("of a class that is closed", x.variable(9, 9), 13);
        });
        holds(5, "A VARIABLE of a CLASS has a BOUND, a TYPE that is no LANE", x -> {
            int c = below(x, ANY);
            int[] bounds = {ANY, c, x.face(), x.row(INT), x.variable(c, ANY)};
            for (int bound : bounds) {
                int v = x.variable(c, bound);
                due("it is its bound " + bound, x.is(v, bound), 1);
            }
        });
        holds(5, "BAD: ANY or no CLASS", x -> {
            int c = below(x, ANY);
            int[] none = {ANY, TRUTH, DOUBLE, x.face(), x.row(c), x.variable(c, c), -1, 60, 100, LEAST, MOST};
            changesNothing(x, () -> {
                for (int cls : none) {
                    refused(x, "of " + cls, x.variable(cls, c), BAD);
                }
            });
        });
        holds(5, "no TYPE", x -> {
            int c = below(x, ANY);
            changesNothing(x, () -> {
                for (int bound : new int[] {-1, c + 1, 99, 100, LEAST, MOST}) {
                    refused(x, "bound to " + bound, x.variable(c, bound), BAD);
                }
            });
        });
        holds(5, "a LANE", x -> {
            int c = below(x, ANY);
            changesNothing(x, () -> {
                for (int lane = TRUTH; lane <= DOUBLE; lane++) {
                    refused(x, "bound to lane " + lane, x.variable(c, lane), BAD);
                }
            });
            due("ANY is none", x.variable(c, ANY), c + 1);
        });
        holds(5, "FULL", x -> {
            int c = below(x, ANY);
            for (int n = 10; n < 100; n++) {
                due("variable", x.variable(c, n - 1), n);
            }
            changesNothing(x, () -> refused(x, "one more", x.variable(c, c), FULL));
            due("the last one's base", x.erased(99, 0), c);
            due("the last one's depth", x.erased(99, 1), 0);
        });
    }

    private static void rows() {
        holds(6, "The ROW of a TYPE: its TYPE, the old one, if there is one", x -> {
            due("of ints", x.row(INT), 9);
            due("status()", x.status(), 0);
            due("of longs", x.row(LONG), 10);
            due("of ints again", x.row(INT), 9);
            due("two were made", x.told(0), 2);
            makeAllTypes(x);
            due("the old one, though there is no room", x.row(INT), 9);
            due("status()", x.status(), 0);
        });
        holds(6, "A ROW is of a TYPE", x -> {
            int c = below(x, ANY);
            int v = x.variable(c, c);
            int[] of = {TRUTH, DOUBLE, ANY, c, x.face(), v, x.row(c)};
            for (int type : of) {
                due("depth of a row of " + type, x.erased(x.row(type), 1), x.erased(type, 1) + 1);
            }
            Check.that("a row of a variable is not that of its bound", x.row(v) != x.row(c));
        });
        holds(6, "BAD", x -> changesNothing(x, () -> {
            for (int type : new int[] {-1, 9, 99, 100, LEAST, MOST}) {
                refused(x, "of " + type, x.row(type), BAD);
            }
        }));
        holds(6, "FULL", x -> {
            due("the first", x.row(ANY), 9);
            for (int n = 10; n < 100; n++) {
                due("row", x.row(n - 1), n);
            }
            changesNothing(x, () -> {
                refused(x, "one more", x.row(99), FULL);
                refused(x, "another one", x.row(INT), FULL);
                refused(x, "there is still none", x.row(INT), FULL);
            });
        });
    }

    private static void erased() {
        holds(7, "ERASED: what = 0 BASE, 1 DEPTH", x -> {
            int row = x.row(FLOAT);
            due("what 0", x.erased(row, 0), FLOAT);
            due("status()", x.status(), 0);
            due("what 1", x.erased(row, 1), 1);
        });
        holds(7, "BAD", x -> {
            int row = x.row(INT);
            changesNothing(x, () -> {
                for (int what : new int[] {-1, 2, LEAST, MOST}) {
                    refused(x, "what " + what, x.erased(row, what), BAD);
                }
                for (int type : new int[] {-1, row + 1, 99, 100, LEAST, MOST}) {
                    refused(x, "type " + type, x.erased(type, 0), BAD);
                }
            });
        });
        holds(7, "ERASED a TYPE is a BASE and a DEPTH: LANES, CLASSES, FACES: itself, 0", x -> {
            int[] types = {TRUTH, DOUBLE, ANY, x.cls(ANY, true), x.cls(9, false), x.face()};
            for (int type : types) {
                due("base of " + type, x.erased(type, 0), type);
                due("depth of " + type, x.erased(type, 1), 0);
            }
        });
        holds(7, "a ROW: those of what it is of, the DEPTH one more", x -> {
            int type = CHAR;
            for (int depth = 1; depth <= 91; depth++) {
                type = x.row(type);
                due("base", x.erased(type, 0), CHAR);
                due("depth", x.erased(type, 1), depth);
            }
            due("the deepest is the last type", type, 99);
        });
        holds(7, "a VARIABLE: those of its BOUND", x -> {
            int c = below(x, ANY);
            int d = below(x, ANY);
            int v = x.variable(c, x.row(x.row(INT)));
            int w = x.variable(d, v);
            int ofW = x.row(w);
            for (int type : new int[] {v, w}) {
                due("base", x.erased(type, 0), INT);
                due("depth", x.erased(type, 1), 2);
            }
            due("a row of it", x.erased(ofW, 1), 3);
            due("a variable of that", x.erased(x.variable(c, ofW), 1), 3);
        });
    }

    private static void is() {
        holds(8, "Whether S IS T, both ERASED: 1, 0", x -> {
            int a = below(x, ANY);
            int b = below(x, a);
            int v = x.variable(a, b);
            due("so", x.is(b, a), 1);
            due("status()", x.status(), 0);
            due("not so", x.is(a, b), 0);
            due("status() of not so", x.status(), 0);
            due("a variable is what its bound is", x.is(v, a), 1);
            due("what its bound is, is a variable", x.is(b, v), 1);
            due("above its bound is not", x.is(a, v), 0);
            due("rows of them", x.is(x.row(b), x.row(v)), 1);
        });
        holds(8, "BAD", x -> changesNothing(x, () -> {
            for (int type : new int[] {-1, 9, 99, 100, LEAST, MOST}) {
                refused(x, "s " + type, x.is(type, ANY), BAD);
                refused(x, "t " + type, x.is(ANY, type), BAD);
                refused(x, "both " + type, x.is(type, type), BAD);
            }
        }));
        holds(8, "of a deeper S, if T's BASE is ANY", x -> {
            int c = below(x, ANY);
            int ints = x.row(INT);
            int anys = x.row(ANY);
            due("a row of a lane", x.is(ints, ANY), 1);
            due("a row of a class", x.is(x.row(c), ANY), 1);
            due("rows of rows", x.is(x.row(ints), ANY), 1);
            due("rows of rows are a row of ANY", x.is(x.row(ints), anys), 1);
            due("by a variable", x.is(x.row(ints), x.variable(c, anys)), 1);
            due("T's base is a class", x.is(x.row(c), c), 0);
            due("T's base is a lane", x.is(x.row(ints), ints), 0);
            due("T is a lane", x.is(ints, INT), 0);
        });
        holds(8, "else not", x -> {
            int c = below(x, ANY);
            int ofC = x.row(c);
            due("S is less deep", x.is(c, ofC), 0);
            due("S is less deep, T of ANY", x.is(c, x.row(ANY)), 0);
            due("ANY is no row of ANY", x.is(ANY, x.row(ANY)), 0);
            due("a lane is no row of it", x.is(INT, x.row(INT)), 0);
            due("a row is not rows of rows of ANY", x.is(ofC, x.row(x.row(ANY))), 0);
        });
    }

    private static void isOfLikeDepth() {
        holds(8, "ERASED, S IS T: of like DEPTH, if the BASES are the same", x -> {
            int c = below(x, ANY);
            int f = x.face();
            for (int type : new int[] {TRUTH, INT, DOUBLE, ANY, c, f}) {
                due("itself " + type, x.is(type, type), 1);
                due("a row of it", x.is(x.row(type), x.row(type)), 1);
            }
            due("another lane, though it widens", x.is(INT, LONG), 0);
            due("rows of another lane", x.is(x.row(INT), x.row(LONG)), 0);
        });
        holds(8, "or both no LANES and T's is ANY", x -> {
            int c = below(x, ANY);
            int f = x.face();
            due("a class", x.is(c, ANY), 1);
            due("a face", x.is(f, ANY), 1);
            due("rows of a face", x.is(x.row(f), x.row(ANY)), 1);
            for (int lane = TRUTH; lane <= DOUBLE; lane++) {
                due("lane " + lane, x.is(lane, ANY), 0);
                due("ANY as lane " + lane, x.is(ANY, lane), 0);
                due("rows of lane " + lane, x.is(x.row(lane), x.row(ANY)), 0);
                due("rows of ANY as rows of lane " + lane, x.is(x.row(ANY), x.row(lane)), 0);
            }
        });
        holds(8, "among the CLASSES ABOVE S's", x -> {
            int a = below(x, ANY);
            int b = below(x, a);
            int c = below(x, b);
            int beside = below(x, a);
            due("one above", x.is(c, b), 1);
            due("two above", x.is(c, a), 1);
            due("rows", x.is(x.row(c), x.row(a)), 1);
            due("beside", x.is(c, beside), 0);
            due("below", x.is(a, c), 0);
            due("ANY is none of them", x.is(ANY, a), 0);
        });
        holds(8, "or the FACES OF it", x -> {
            int f = x.face();
            int g = x.face();
            int a = below(x, ANY);
            x.under(a, f);
            int b = below(x, a);
            due("of a class", x.is(a, f), 1);
            due("of a class above", x.is(b, f), 1);
            due("rows", x.is(x.row(b), x.row(f)), 1);
            due("another face", x.is(b, g), 0);
            due("a face is no class", x.is(f, a), 0);
            x.under(f, g);
            due("as soon as it is told", x.is(b, g), 1);
            due("of a face", x.is(f, g), 1);
        });
        holds(8, "ABOVE a CLASS are the CLASSES from it upward, itself the first, ANY the last", x -> {
            for (int n = 9; n < 100; n++) {
                x.cls(n - 1, false);
            }
            for (int n = ANY; n < 100; n++) {
                due("the lowest is " + n, x.is(99, n), 1);
                due("one below another is not it", x.is(n, 99), n == 99 ? 1 : 0);
            }
        });
    }
}
