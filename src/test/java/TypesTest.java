/** Promises 1 to 8: a new object, and TYPES. */
public final class TypesTest {
    private static void newObject() {
        QueryHandles x = new QueryHandles();
        for (int what = 0; what < 8; what++) {
            Check.due("new: told(" + what + ")", x.told(what), 0);
        }
        Check.due("new: status()", x.status(), 0);
        Check.due("new: lane()", x.lane(), -1);
        Check.due("new: filled()", x.filled(), 0);
        Check.due("new: failed()", x.failed(), -1);
        Check.due("new: hit(0)", x.hit(0), -1);
        Check.due("new: trace(0)", x.trace(0), -1);
        Check.due("new: digest()", x.digest(), 17);
        for (int lane = 0; lane <= 8; lane++) {
            Check.due("new: erased base " + lane, x.erased(lane, 0), lane);
            Check.due("new: erased depth " + lane, x.erased(lane, 1), 0);
        }
        Check.due("new: erased(9, 0)", x.erased(9, 0), -1);
        Check.due("new: found(8, 0)", x.found(8, 0), -17);
        Check.due("new: kind(0, 0)", x.kind(0, 0), -1);
        Check.lost("new: cell(0, 0)", x, x.cell(0, 0), -11);
        Check.due("new: told(6)", x.told(6), 0);
    }

    private static void classesAndFaces() {
        QueryHandles x = new QueryHandles();
        Check.due("cls(8, false)", x.cls(8, false), 9);
        Check.due("cls(9, true)", x.cls(9, true), 10);
        Check.due("face()", x.face(), 11);
        Check.due("row(9)", x.row(9), 12);
        Check.due("variable(9, 9)", x.variable(9, 9), 13);
        int[] noClass = {-1, 0, 7, 11, 12, 13, 14, 99, 100, Integer.MIN_VALUE, Integer.MAX_VALUE};
        for (int above : noClass) {
            Check.due("cls(" + above + ", false)", x.cls(above, false), -1);
            Check.due("cls(..), status()", x.status(), -1);
        }
        Check.due("told(0)", x.told(0), 5);
        Check.due("told(7)", x.told(7), 2);
        for (int t = 14; t < 100; t++) {
            Check.due("face()", x.face(), t);
        }
        Check.due("cls(0, false) of a full object", x.cls(0, false), -1);
        Check.due("cls(8, false) of a full object", x.cls(8, false), -2);
        Check.due("cls(..), status()", x.status(), -2);
        Check.due("face() of a full object", x.face(), -2);
        Check.due("variable(9, 9) of a full object", x.variable(9, 9), -2);
        Check.due("variable(9, 4) of a full object", x.variable(9, 4), -1);
        Check.due("row(9) of a full object is the old one", x.row(9), 12);
        Check.due("row(12) of a full object", x.row(12), -2);
        Check.due("row(100) of a full object", x.row(100), -1);
        Check.due("told(0)", x.told(0), 91);
    }

    private static void under() {
        QueryHandles x = new QueryHandles();
        for (int f = 9; f < 16; f++) {
            x.face();
        }
        int c = x.cls(8, false);
        int d = x.cls(c, false);
        int row = x.row(c);
        int variable = x.variable(c, c);
        Check.due("a face to ANY", x.under(8, 9), -1);
        Check.due("a face to a lane", x.under(4, 9), -1);
        Check.due("a face to a row", x.under(row, 9), -1);
        Check.due("a face to a variable", x.under(variable, 9), -1);
        Check.due("a face to no type", x.under(-1, 9), -1);
        Check.due("a class as a face", x.under(d, c), -1);
        Check.due("no face", x.under(c, 100), -1);
        Check.due("one", x.under(c, 9), 1);
        Check.due("told already", x.under(c, 9), -3);
        Check.due("told above is no matter", x.under(d, 9), 1);
        Check.due("two", x.under(c, 10), 2);
        Check.due("three", x.under(c, 11), 3);
        Check.due("four", x.under(c, 12), 4);
        Check.due("five", x.under(c, 13), -2);
        Check.due("five, told already", x.under(c, 9), -2);
        Check.due("itself", x.under(13, 13), -3);
        Check.due("13 under 14", x.under(13, 14), 1);
        Check.due("14 under 15", x.under(14, 15), 1);
        Check.due("a ring of two", x.under(14, 13), -3);
        Check.due("a ring of three", x.under(15, 13), -3);
        Check.due("a second way up", x.under(13, 15), 2);
        x.under(d, 13);
        Check.due("thing", x.thing(d), 0);
        Check.due("closed: c, d, ANY, 9 .. 15", x.told(6), 10);
        Check.due("a class that is closed", x.under(d, 10), -3);
        Check.due("a class above that is closed and full", x.under(c, 13), -2);
        Check.due("a face that is closed", x.under(15, 9), -3);
        int late = x.face();
        Check.due("a new face gets a closed one", x.under(late, 9), 1);
        Check.due("a face that is closed gets a new one", x.under(9, late), -3);
    }

    private static void rowsAndVariables() {
        QueryHandles x = new QueryHandles();
        int c = x.cls(8, false);
        int f = x.face();
        int ofInts = x.row(4);
        Check.due("row again", x.row(4), ofInts);
        int ofThose = x.row(ofInts);
        int v = x.variable(c, ofThose);
        int w = x.variable(c, v);
        int ofW = x.row(w);
        int byFace = x.variable(c, f);
        Check.due("base of ints", x.erased(ofInts, 0), 4);
        Check.due("depth of ints", x.erased(ofInts, 1), 1);
        Check.due("base of a variable of a variable", x.erased(w, 0), 4);
        Check.due("depth of a variable of a variable", x.erased(w, 1), 2);
        Check.due("depth of a row of it", x.erased(ofW, 1), 3);
        Check.due("base of a variable of a face", x.erased(byFace, 0), f);
        Check.due("erased what 2", x.erased(c, 2), -1);
        Check.due("erased what -1", x.erased(c, -1), -1);
        Check.due("erased no type", x.erased(50, 0), -1);
        Check.due("erased type -1", x.erased(-1, 0), -1);
        Check.due("variable of ANY", x.variable(8, c), -1);
        Check.due("variable of a face", x.variable(f, c), -1);
        Check.due("variable of a lane", x.variable(3, c), -1);
        Check.due("variable bound to a lane", x.variable(c, 7), -1);
        Check.due("variable bound to ANY", x.variable(c, 8), byFace + 1);
        Check.due("variable bound to none", x.variable(c, -1), -1);
        Check.due("variable bound to what comes", x.variable(c, byFace + 2), -1);
        Check.due("row of none", x.row(-1), -1);
    }

    private static void is() {
        QueryHandles x = new QueryHandles();
        int a = x.cls(8, true);
        int b = x.cls(a, false);
        int f = x.face();
        int g = x.face();
        x.under(f, g);
        x.under(a, f);
        int[][] so = {{4, 4}, {8, 8}, {a, a}, {b, a}, {b, 8}, {b, f}, {b, g}, {a, g}, {f, g}, {f, 8},
            {f, f}, {x.row(b), x.row(a)}, {x.row(b), x.row(g)}, {x.row(b), x.row(8)}, {x.row(4), 8},
            {x.row(x.row(4)), x.row(8)}, {x.row(x.row(b)), 8}, {x.variable(a, b), f}, {x.row(4), x.row(4)}};
        for (int[] p : so) {
            Check.due("is(" + p[0] + ", " + p[1] + ")", x.is(p[0], p[1]), 1);
        }
        int[][] not = {{4, 5}, {4, 8}, {8, 4}, {a, b}, {8, a}, {g, f}, {f, a}, {8, f}, {x.row(4), x.row(8)},
            {x.row(4), x.row(5)}, {x.row(a), a}, {a, x.row(a)}, {8, x.row(8)}, {x.row(4), 4},
            {x.row(x.row(4)), x.row(x.row(8))}, {x.row(x.row(b)), x.row(f)}, {x.row(b), f}};
        for (int[] p : not) {
            Check.due("is(" + p[0] + ", " + p[1] + ")", x.is(p[0], p[1]), 0);
            Check.due("is(..), status()", x.status(), 0);
        }
        Check.due("is(-1, 8)", x.is(-1, 8), -1);
        Check.due("is(8, 100)", x.is(8, 100), -1);
        int h = x.face();
        x.under(g, h);
        Check.due("a face told later is seen from below", x.is(b, h), 1);
        Check.due("and from faces", x.is(f, h), 1);
    }

    private static void longChains() {
        QueryHandles x = new QueryHandles();
        int top = x.face();
        int before = top;
        for (int i = 0; i < 44; i++) {
            int next = x.face();
            Check.due("under", x.under(next, before), 1);
            before = next;
        }
        int c = x.cls(8, false);
        for (int i = 0; i < 44; i++) {
            c = x.cls(c, false);
        }
        x.under(54, before);
        Check.due("the lowest class is of the highest face", x.is(c, top), 1);
        x.method(top, 3, 4, 5);
        Check.due("and finds its body", x.found(c, 3), 100 * top);
    }

    public static void main(String[] args) {
        newObject();
        classesAndFaces();
        under();
        rowsAndVariables();
        is();
        longChains();
        Check.end("TypesTest");
    }
}
