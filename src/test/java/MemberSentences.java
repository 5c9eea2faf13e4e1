/** Promises 9 to 12, sentence by sentence. */
final class MemberSentences extends Sentences {
    private MemberSentences() { }

    static void all() {
        fields();
        fieldsRefused();
        methods();
        methodsRefused();
        methodsNot();
        closed();
        found();
        foundOfFaces();
        foundOfLastTypes();
        seen();
    }

    private static void fields() {
        holds(9, "A FIELD more: its number", x -> {
            int c = x.cls(ANY, true);
            due("the first", x.field(c, 9, INT, false), 0);
            due("status()", x.status(), 0);
            due("a shared one", x.field(c, 0, c, true), 1);
            x.method(c, 0, TELLS_INT, 0);
            due("behind a method", x.field(c, 1, x.row(INT), false), 3);
            due("seen by its number", x.seen(c, 1), 100 * c + 3);
        });
        holds(9, "MEMBERS of a CLASS (not ANY) or FACE, 10 at most, are numbered from 0 on, as they are told", x -> {
            int c = below(x, ANY);
            int f = x.face();
            for (int n = 0; n < 10; n++) {
                due("of a class", n % 2 == 0 ? x.field(c, n, INT, n > 5) : x.method(c, n, TELLS_INT, n), n);
                due("of a face", x.method(f, n, 0, 0), n);
            }
            refused(x, "an eleventh field", x.field(c, 1, INT, false), FULL);
            refused(x, "an eleventh method", x.method(c, 0, TELLS_INT, 0), FULL);
            refused(x, "of ANY", x.field(ANY, 0, INT, false), BAD);
            due("the last one is there", x.found(c, 9), 100 * c + 9);
        });
        holds(9, "FIELDS (of CLASSES alone) have a NAME 0 .. 9 and a TYPE, and are SHARED or not", x -> {
            int c = below(x, ANY);
            due("the least name", x.field(c, 0, INT, false), 0);
            due("the greatest name", x.field(c, 9, ANY, true), 1);
            refused(x, "of a face", x.field(x.face(), 0, INT, false), BAD);
            x.thing(c);
            due("the one that is shared has no place in a thing", x.kind(0, 2), 1);
        });
    }

    private static void fieldsRefused() {
        holds(9, "BAD: ANY or no CLASS", x -> {
            int c = below(x, ANY);
            int[] none = {ANY, TRUTH, DOUBLE, x.face(), x.row(c), x.variable(c, c), -1, 60, 100, LEAST, MOST};
            changesNothing(x, () -> {
                for (int cls : none) {
                    refused(x, "of " + cls, x.field(cls, 0, INT, true), BAD);
                }
            });
        });
        holds(9, "NAME", x -> {
            int c = below(x, ANY);
            changesNothing(x, () -> {
                for (int name : new int[] {-1, 10, LEAST, MOST}) {
                    refused(x, "name " + name, x.field(c, name, INT, true), BAD);
                }
            });
            due("none came", x.field(c, 0, INT, false), 0);
        });
        holds(9, "TYPE", x -> {
            int c = below(x, ANY);
            changesNothing(x, () -> {
                for (int type : new int[] {-1, c + 1, 99, 100, LEAST, MOST}) {
                    refused(x, "type " + type, x.field(c, 0, type, true), BAD);
                }
            });
            due("none came", x.field(c, 0, INT, false), 0);
        });
        holds(9, "FULL", x -> {
            int c = below(x, ANY);
            int d = below(x, ANY);
            int v = x.variable(d, d);
            for (int n = 0; n < 5; n++) {
                x.field(c, n, INT, true);
                x.method(c, n, TELLS_INT, 0);
            }
            x.thing(c);
            changesNothing(x, () -> {
                refused(x, "an eleventh", x.field(c, 5, INT, true), FULL);
                refused(x, "FULL ahead of a name again", x.field(c, 0, INT, true), FULL);
                refused(x, "FULL ahead of a variable of another", x.field(c, 5, v, true), FULL);
                refused(x, "BAD ahead of FULL", x.field(c, 10, INT, true), BAD);
            });
            due("another class is not full", x.field(d, 0, INT, false), 0);
        });
        holds(9, "NO: CLOSED", x -> {
            int a = x.cls(ANY, true);
            int b = below(x, a);
            int c = below(x, b);
            x.thing(b);
            changesNothing(x, () -> {
                refused(x, "its class", x.field(b, 0, INT, true), NO);
                refused(x, "the class above", x.field(a, 0, INT, true), NO);
            });
            due("a class below", x.field(c, 0, INT, false), 0);
        });
        holds(9, "a FIELD of the CLASS has that NAME", x -> {
            int a = below(x, ANY);
            int b = below(x, a);
            x.field(a, 3, INT, false);
            x.method(a, 4, TELLS_INT, 0);
            changesNothing(x, () -> {
                refused(x, "again", x.field(a, 3, INT, false), NO);
                refused(x, "again, of another type, shared", x.field(a, 3, LONG, true), NO);
            });
            due("a field of the class above hides nothing", x.field(b, 3, INT, false), 0);
            due("a method has that name", x.field(a, 4, INT, false), 2);
        });
        holds(9, "the TYPE is a VARIABLE of another CLASS", x -> {
            int a = below(x, ANY);
            int b = below(x, a);
            int ofA = x.variable(a, ANY);
            int ofB = x.variable(b, ofA);
            changesNothing(x, () -> {
                refused(x, "of the class above", x.field(b, 0, ofA, false), NO);
                refused(x, "of the class below, shared", x.field(a, 0, ofB, true), NO);
            });
            due("its own", x.field(a, 0, ofA, true), 0);
            due("its own, though bound to another's", x.field(b, 0, ofB, false), 0);
        });
        holds(9, "or a ROW of such, of rows of such and so on", x -> {
            int a = below(x, ANY);
            int b = below(x, a);
            int one = x.row(x.variable(a, ANY));
            int two = x.row(one);
            int three = x.row(two);
            changesNothing(x, () -> {
                for (int type : new int[] {one, two, three}) {
                    refused(x, "rows of another's", x.field(b, 0, type, false), NO);
                }
            });
            due("rows of its own", x.field(a, 0, three, false), 0);
            due("rows of a class", x.field(b, 0, x.row(x.row(a)), false), 0);
        });
    }

    private static void methods() {
        holds(10, "A METHOD more: its number", x -> {
            int c = x.cls(ANY, true);
            due("the first", x.method(c, 9, TELLS_INT, MOST), 0);
            due("status()", x.status(), 0);
            x.field(c, 9, INT, false);
            due("behind a field", x.method(c, 0, TELLS_FIELD, 1), 2);
            due("found by its number", x.found(c, 0), 100 * c + 2);
            due("of a face", x.method(x.face(), 5, ASKS, 9), 0);
        });
        holds(10, "METHODS have a NAME 0 .. 9 and a BODY of a sort: 0 none", x -> {
            int c = x.cls(ANY, true);
            int f = x.face();
            due("the least name", x.method(c, 0, 0, LEAST), 0);
            due("the greatest name", x.method(c, 9, 0, MOST), 1);
            due("of a face", x.method(f, 0, 0, -1), 0);
            refused(x, "it is not found", x.found(c, 0), LACKING);
        });
    }

    private static void methodsRefused() {
        holds(10, "BAD: ANY, other TYPES", x -> {
            int c = below(x, ANY);
            int[] none = {ANY, TRUTH, DOUBLE, x.row(c), x.variable(c, c), -1, 60, 100, LEAST, MOST};
            changesNothing(x, () -> {
                for (int type : none) {
                    refused(x, "of " + type, x.method(type, 0, TELLS_INT, 0), BAD);
                }
            });
        });
        holds(10, "NAME", x -> {
            int c = below(x, ANY);
            for (int name : new int[] {-1, 10, LEAST, MOST}) {
                refused(x, "name " + name, x.method(c, name, TELLS_INT, 0), BAD);
            }
            due("none came", x.method(c, 0, TELLS_INT, 0), 0);
        });
        holds(10, "a BODY not 0 to 5", x -> {
            int c = x.cls(ANY, true);
            for (int body : new int[] {-1, 6, LEAST, MOST}) {
                refused(x, "body " + body, x.method(c, 0, body, 0), BAD);
            }
            x.field(c, 0, INT, false);
            for (int body = 0; body <= 5; body++) {
                due("body " + body, x.method(c, body, body, 0), body + 1);
            }
        });
        holds(10, "a of 3, 5 not 0 .. 9", x -> {
            int c = below(x, ANY);
            int f = x.face();
            for (int a : new int[] {-1, 10, LEAST, MOST}) {
                refused(x, "3 asks " + a, x.method(c, 0, ASKS, a), BAD);
                refused(x, "5 asks " + a, x.method(c, 0, ASKS_AND_ONE, a), BAD);
                refused(x, "3 of a face asks " + a, x.method(f, 0, ASKS, a), BAD);
                refused(x, "5 of a face asks " + a, x.method(f, 0, ASKS_AND_ONE, a), BAD);
            }
            due("3 asks 0", x.method(c, 0, ASKS, 0), 0);
            due("3 asks 9", x.method(c, 1, ASKS, 9), 1);
            due("5 asks 0", x.method(c, 2, ASKS_AND_ONE, 0), 2);
            due("5 asks 9", x.method(c, 3, ASKS_AND_ONE, 9), 3);
            due("2 asks for no number", x.method(c, 4, ABOVE, -1), 4);
            due("4 tells any number", x.method(c, 5, TELLS_INT, 10), 5);
        });
        holds(10, "FULL", x -> {
            int c = below(x, ANY);
            int f = x.face();
            for (int n = 0; n < 10; n++) {
                due("of a class", n < 9 ? x.method(c, n, TELLS_INT, 0) : x.field(c, n, INT, false), n);
                due("of a face", x.method(f, n, TELLS_INT, 0), n);
            }
            x.under(c, f);
            x.thing(c);
            changesNothing(x, () -> {
                refused(x, "an eleventh of a class", x.method(c, 9, TELLS_INT, 0), FULL);
                refused(x, "an eleventh of a face", x.method(f, 0, TELLS_INT, 0), FULL);
                refused(x, "FULL ahead of no body", x.method(c, 9, 0, 0), FULL);
                refused(x, "FULL ahead of no field", x.method(c, 9, TELLS_FIELD, 0), FULL);
                refused(x, "BAD ahead of FULL", x.method(c, 9, ASKS, 10), BAD);
            });
        });
    }

    private static void methodsNot() {
        holds(10, "NO: CLOSED", x -> {
            int f = x.face();
            int g = x.face();
            int a = x.cls(ANY, true);
            int b = below(x, a);
            x.under(a, f);
            x.under(f, g);
            x.thing(b);
            for (int type : new int[] {a, b, f, g}) {
                refused(x, "of " + type, x.method(type, 0, TELLS_INT, 0), NO);
            }
            refused(x, "BAD ahead of NO", x.method(b, 0, 6, 0), BAD);
            refused(x, "nothing came", x.found(b, 0), LACKING);
            due("a class below", x.method(below(x, b), 0, TELLS_INT, 0), 0);
        });
        holds(10, "a METHOD of it has that NAME", x -> {
            int f = x.face();
            int a = x.cls(ANY, true);
            int b = below(x, a);
            x.method(f, 2, 0, 0);
            x.method(a, 2, 0, 0);
            x.field(a, 3, INT, false);
            refused(x, "of a face", x.method(f, 2, TELLS_INT, 0), NO);
            refused(x, "of a class", x.method(a, 2, TELLS_INT, 0), NO);
            due("a field has that name", x.method(a, 3, TELLS_INT, 0), 2);
            due("a method of the class above has it", x.method(b, 2, TELLS_INT, 0), 0);
        });
        holds(10, "a FACE with BODY 1, 2", x -> {
            int f = x.face();
            refused(x, "1", x.method(f, 0, TELLS_FIELD, 0), NO);
            refused(x, "2", x.method(f, 0, ABOVE, 0), NO);
            int[] fine = {0, ASKS, TELLS_INT, ASKS_AND_ONE};
            for (int n = 0; n < fine.length; n++) {
                due("body " + fine[n], x.method(f, n, fine[n], 0), n);
            }
        });
        holds(10, "a CLASS that is not OPEN with BODY 0", x -> {
            int open = x.cls(ANY, true);
            int c = below(x, open);
            refused(x, "not open", x.method(c, 0, 0, 0), NO);
            due("open", x.method(open, 0, 0, 0), 0);
            due("a face", x.method(x.face(), 0, 0, 0), 0);
        });
        holds(10, "BODY 1: MEMBER a is no FIELD of it", x -> {
            int a = below(x, ANY);
            int b = below(x, a);
            x.field(a, 0, INT, false);
            x.field(a, 1, INT, true);
            x.method(b, 9, TELLS_INT, 0);
            for (int none : new int[] {-1, 0, 1, 2, 9, 10, LEAST, MOST}) {
                refused(x, "member " + none, x.method(b, 0, TELLS_FIELD, none), NO);
            }
            due("a field", x.method(a, 0, TELLS_FIELD, 0), 2);
            due("a shared one", x.method(a, 1, TELLS_FIELD, 1), 3);
            refused(x, "the one that it would be", x.method(a, 2, TELLS_FIELD, 4), NO);
        });
    }

    private static void closed() {
        holds(10, "A CLASS or FACE is CLOSED once a THING was made of a CLASS that it is", x -> {
            int c = below(x, ANY);
            x.things(c, 1);
            due("a row of none closes nothing", x.method(c, 0, TELLS_INT, 0), 0);
            refused(x, "no more things of an open class", x.thing(x.cls(c, true)), NO);
            due("nor does a thing that was refused", x.method(c, 1, TELLS_INT, 0), 1);
            due("one is made", x.thing(c), 1);
            refused(x, "now it is closed", x.method(c, 2, TELLS_INT, 0), NO);
        });
        holds(10, "or is ABOVE", x -> {
            int a = x.cls(ANY, true);
            int b = x.cls(a, true);
            int c = below(x, b);
            int beside = below(x, a);
            x.thing(c);
            refused(x, "one above", x.method(b, 0, TELLS_INT, 0), NO);
            refused(x, "two above", x.method(a, 0, TELLS_INT, 0), NO);
            due("not beside", x.method(beside, 0, TELLS_INT, 0), 0);
        });
        holds(10, "or is among the FACES OF it", x -> {
            int f = x.face();
            int g = x.face();
            int other = x.face();
            int a = x.cls(ANY, true);
            x.under(a, f);
            x.under(f, g);
            x.under(other, g);
            x.thing(below(x, a));
            refused(x, "a face of the class above", x.method(f, 0, TELLS_INT, 0), NO);
            refused(x, "a face of that", x.method(g, 0, TELLS_INT, 0), NO);
            due("not a face that has it told", x.method(other, 0, TELLS_INT, 0), 0);
        });
        holds(9, "it gets no more MEMBERS, FACES", x -> {
            int c = below(x, ANY);
            int f = x.face();
            x.thing(c);
            changesNothing(x, () -> {
                refused(x, "a field", x.field(c, 0, INT, true), NO);
                refused(x, "a method", x.method(c, 0, TELLS_INT, 0), NO);
                refused(x, "a face", x.under(c, f), NO);
            });
        });
    }

    private static void found() {
        holds(11, "FOUND: 100 times the TYPE and the number", x -> {
            int c = below(x, ANY);
            for (int n = 0; n < 10; n++) {
                x.method(c, 9 - n, TELLS_INT, 0);
            }
            due("the first", x.found(c, 9), 100 * c);
            due("status()", x.status(), 0);
            due("the tenth", x.found(c, 0), 100 * c + 9);
            for (int n = 10; n < 99; n++) {
                x.face();
            }
            due("the last type", below(x, ANY), 99);
            x.method(99, 0, TELLS_INT, 0);
            due("its method", x.found(99, 0), 9900);
        });
        holds(11, "BAD: no CLASS", x -> {
            int c = below(x, ANY);
            x.method(c, 0, TELLS_INT, 0);
            int[] none = {TRUTH, DOUBLE, x.face(), x.row(c), x.variable(c, c), -1, 60, 100, LEAST, MOST};
            changesNothing(x, () -> {
                for (int cls : none) {
                    refused(x, "class " + cls, x.found(cls, 0), BAD);
                }
            });
        });
        holds(11, "NAME", x -> {
            int c = below(x, ANY);
            changesNothing(x, () -> {
                for (int name : new int[] {-1, 10, LEAST, MOST}) {
                    refused(x, "name " + name, x.found(c, name), BAD);
                }
            });
        });
        holds(11, "LACKING, TWO", x -> {
            int c = below(x, ANY);
            x.under(c, x.face());
            x.under(c, x.face());
            refused(x, "no method", x.found(c, 0), LACKING);
            x.method(c + 1, 0, TELLS_INT, 0);
            x.method(c + 2, 0, TELLS_INT, 0);
            refused(x, "two", x.found(c, 0), TWO);
        });
        holds(11, "FOUND for a CLASS, of a NAME: the METHOD of that NAME of the first CLASS ABOVE it that"
            + " has one", x -> {
            int a = below(x, ANY);
            int b = below(x, a);
            int c = below(x, b);
            int f = x.face();
            x.under(c, f);
            x.method(f, 0, TELLS_INT, 0);
            due("a face's, while no class has one", x.found(c, 0), 100 * f);
            x.method(a, 0, TELLS_INT, 0);
            due("that of a class far above goes ahead of a face's", x.found(c, 0), 100 * a);
            x.field(b, 0, INT, false);
            due("a field of that name hides none", x.found(c, 0), 100 * a);
            x.method(b, 0, TELLS_INT, 0);
            due("the nearest", x.found(c, 0), 100 * b + 1);
            due("not for what is above", x.found(a, 0), 100 * a);
            x.method(c, 0, TELLS_INT, 0);
            due("its own", x.found(c, 0), 100 * c);
            refused(x, "of another name", x.found(c, 1), LACKING);
        });
        holds(11, "(LACKING, if its BODY is none)", x -> {
            int a = below(x, ANY);
            int b = x.cls(a, true);
            int c = below(x, b);
            int f = x.face();
            x.under(c, f);
            x.method(a, 0, TELLS_INT, 0);
            x.method(f, 0, TELLS_INT, 0);
            x.method(b, 0, 0, 0);
            refused(x, "it hides those above and those of faces", x.found(c, 0), LACKING);
            due("not from above", x.found(a, 0), 100 * a);
        });
    }

    private static void foundOfFaces() {
        holds(11, "Without such: of the FACES OF it that have one with a BODY", x -> {
            int f = x.face();
            int g = x.face();
            int a = below(x, ANY);
            x.under(a, f);
            x.under(a, g);
            x.method(f, 0, 0, 0);
            refused(x, "without a body", x.found(a, 0), LACKING);
            x.method(g, 0, TELLS_INT, 0);
            due("the one with a body", x.found(a, 0), 100 * g);
            due("for a class below", x.found(below(x, a), 0), 100 * g);
        });
        holds(11, "those that are no FACE OF another such one", x -> {
            int top = x.face();
            int mid = x.face();
            int low = x.face();
            x.under(low, mid);
            x.under(mid, top);
            int c = below(x, ANY);
            x.under(c, top);
            x.under(c, low);
            x.method(top, 0, TELLS_INT, 0);
            due("the top alone", x.found(c, 0), 100 * top);
            x.method(mid, 0, 0, 0);
            due("one without a body overrules none", x.found(c, 0), 100 * top);
            x.method(low, 0, TELLS_INT, 0);
            due("the lowest, past one without a body", x.found(c, 0), 100 * low);
        });
        holds(11, "LACKING: there is none", x -> {
            int f = x.face();
            int a = below(x, ANY);
            int b = below(x, a);
            x.under(b, f);
            x.method(f, 0, TELLS_INT, 0);
            refused(x, "the class below has the face", x.found(a, 0), LACKING);
            refused(x, "of another name", x.found(b, 1), LACKING);
            refused(x, "ANY", x.found(ANY, 0), LACKING);
        });
        holds(11, "TWO: there are several", x -> {
            int top = x.face();
            int left = x.face();
            int right = x.face();
            x.under(left, top);
            x.under(right, top);
            int a = below(x, ANY);
            int b = below(x, a);
            x.under(a, left);
            x.under(b, right);
            for (int f : new int[] {top, left, right}) {
                x.method(f, 0, TELLS_INT, 7);
            }
            due("above one overrules the top", x.found(a, 0), 100 * left);
            refused(x, "below there are two, though they tell the same", x.found(b, 0), TWO);
        });
        holds(11, "else that one's", x -> {
            int left = x.face();
            int right = x.face();
            int low = x.face();
            x.under(low, left);
            x.under(low, right);
            int c = below(x, ANY);
            x.under(c, low);
            x.method(left, 0, TELLS_INT, 0);
            x.method(right, 0, TELLS_INT, 0);
            refused(x, "two", x.found(c, 0), TWO);
            x.method(low, 5, TELLS_INT, 0);
            x.method(low, 0, TELLS_INT, 0);
            due("one below both settles it", x.found(c, 0), 100 * low + 1);
        });
    }

    /** Among 91 TYPES the last ones are found as the first ones are. */
    private static void foundOfLastTypes() {
        holds(11, "else that one's", x -> {
            int first = x.face();
            int c = below(x, ANY);
            for (int n = 11; n < 97; n++) {
                x.face();
            }
            int left = x.face();
            int right = x.face();
            int low = x.face();
            due("the last", low, 99);
            x.method(right, 0, TELLS_INT, 0);
            x.under(c, right);
            due("one", x.found(c, 0), 100 * right);
            x.method(low, 0, TELLS_INT, 0);
            due("the last is none of its faces yet", x.found(c, 0), 100 * right);
            x.under(c, low);
            refused(x, "two", x.found(c, 0), TWO);
            x.under(low, right);
            due("the last overrules one ahead", x.found(c, 0), 9900);
            x.method(first, 0, TELLS_INT, 0);
            x.under(c, first);
            refused(x, "a first one and a last one", x.found(c, 0), TWO);
            x.under(low, first);
            due("the last overrules the first", x.found(c, 0), 9900);
            x.method(left, 1, TELLS_INT, 0);
            refused(x, "of another name", x.found(c, 1), LACKING);
            x.under(c, left);
            due("its own", x.found(c, 1), 100 * left);
        });
        holds(11, "those that are no FACE OF another such one", x -> {
            for (int n = 9; n < 99; n++) {
                x.face();
            }
            int c = below(x, ANY);
            for (int f : new int[] {9, 70, 98}) {
                x.under(c, f);
                x.method(f, 0, TELLS_INT, 0);
            }
            refused(x, "three", x.found(c, 0), TWO);
            x.under(9, 70);
            refused(x, "two are left", x.found(c, 0), TWO);
            x.under(9, 98);
            due("the first overrules the last", x.found(c, 0), 900);
        });
    }

    private static void seen() {
        holds(12, "SEEN: likewise", x -> {
            int c = below(x, ANY);
            for (int n = 0; n < 10; n++) {
                x.field(c, 9 - n, INT, n % 2 == 0);
            }
            due("the first", x.seen(c, 9), 100 * c);
            due("status()", x.status(), 0);
            due("the tenth", x.seen(c, 0), 100 * c + 9);
        });
        holds(12, "BAD", x -> {
            int c = below(x, ANY);
            x.field(c, 0, INT, false);
            int[] none = {TRUTH, DOUBLE, x.face(), x.row(c), x.variable(c, c), -1, 60, 100, LEAST, MOST};
            changesNothing(x, () -> {
                for (int cls : none) {
                    refused(x, "class " + cls, x.seen(cls, 0), BAD);
                }
                for (int name : new int[] {-1, 10, LEAST, MOST}) {
                    refused(x, "name " + name, x.seen(c, name), BAD);
                }
            });
        });
        holds(12, "LACKING", x -> {
            int a = below(x, ANY);
            int b = below(x, a);
            x.method(a, 0, TELLS_INT, 0);
            x.field(b, 0, INT, false);
            changesNothing(x, () -> {
                refused(x, "a method, and a field below", x.seen(a, 0), LACKING);
                refused(x, "of another name", x.seen(b, 1), LACKING);
                refused(x, "ANY", x.seen(ANY, 0), LACKING);
            });
        });
        holds(12, "SEEN from a CLASS, of a NAME: the FIELD of that NAME of the first CLASS ABOVE it that has"
            + " one", x -> {
            int a = below(x, ANY);
            int b = below(x, a);
            int c = below(x, b);
            x.field(a, 1, INT, false);
            x.field(a, 0, INT, false);
            due("from far below", x.seen(c, 0), 100 * a + 1);
            x.method(b, 0, TELLS_INT, 0);
            due("a method of that name hides none", x.seen(c, 0), 100 * a + 1);
            x.field(b, 0, LONG, true);
            due("the nearest", x.seen(c, 0), 100 * b + 1);
            x.field(c, 0, ANY, false);
            due("its own", x.seen(c, 0), 100 * c);
            due("not from above", x.seen(a, 0), 100 * a + 1);
        });
    }
}
