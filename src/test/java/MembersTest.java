/** Promises 9 to 12: FIELDS, METHODS, FOUND, SEEN. */
public final class MembersTest {
    private static void fields() {
        QueryHandles x = new QueryHandles();
        int c = x.cls(8, false);
        int d = x.cls(c, false);
        int f = x.face();
        int v = x.variable(c, 8);
        int ofV = x.row(x.row(v));
        int byV = x.variable(d, v);
        Check.due("field of ANY", x.field(8, 0, 4, false), -1);
        Check.due("field of a face", x.field(f, 0, 4, false), -1);
        Check.due("field of a lane", x.field(4, 0, 4, false), -1);
        Check.due("field of a variable", x.field(v, 0, 4, false), -1);
        Check.due("name -1", x.field(c, -1, 4, false), -1);
        Check.due("name 10", x.field(c, 10, 4, false), -1);
        Check.due("type -1", x.field(c, 0, -1, false), -1);
        Check.due("type 99", x.field(c, 0, 99, false), -1);
        Check.due("first", x.field(c, 9, 4, false), 0);
        Check.due("name again", x.field(c, 9, 5, true), -3);
        Check.due("own variable", x.field(c, 0, v, true), 1);
        Check.due("row of own variable", x.field(c, 1, ofV, false), 2);
        Check.due("a method may have the name of a field", x.method(c, 9, 4, 1), 3);
        Check.due("hides one", x.field(d, 9, 7, false), 0);
        Check.due("variable of another", x.field(d, 0, v, false), -3);
        Check.due("rows of a variable of another", x.field(d, 0, ofV, false), -3);
        Check.due("own variable bound to another's", x.field(d, 0, byV, false), 1);
        for (int n = 2; n < 8; n++) {
            Check.due("field " + n, x.field(c, n, n, n % 2 == 0), n + 2);
        }
        Check.due("eleventh", x.field(c, 8, 4, false), -2);
        Check.due("eleventh, foreign and named", x.field(c, 9, byV, false), -2);
        x.thing(d);
        Check.due("closed above and full", x.field(c, 8, 4, false), -2);
        Check.due("closed", x.field(d, 8, 4, false), -3);
        Check.due("closed, bad name", x.field(d, 80, 4, false), -1);
    }

    private static void methods() {
        QueryHandles x = new QueryHandles();
        int open = x.cls(8, true);
        int c = x.cls(open, false);
        int f = x.face();
        Check.due("method of ANY", x.method(8, 0, 4, 0), -1);
        Check.due("method of a lane", x.method(0, 0, 4, 0), -1);
        Check.due("method of a row", x.method(x.row(c), 0, 4, 0), -1);
        Check.due("method of none", x.method(77, 0, 4, 0), -1);
        Check.due("name -1", x.method(c, -1, 4, 0), -1);
        Check.due("name 10", x.method(c, 10, 4, 0), -1);
        Check.due("body -1", x.method(c, 0, -1, 0), -1);
        Check.due("body 6", x.method(c, 0, 6, 0), -1);
        Check.due("asks -1", x.method(c, 0, 3, -1), -1);
        Check.due("asks 10", x.method(c, 0, 3, 10), -1);
        Check.due("asks 10 and one", x.method(f, 0, 5, 10), -1);
        Check.due("no body, not open", x.method(c, 0, 0, 0), -3);
        Check.due("no body, open", x.method(open, 0, 0, 99), 0);
        Check.due("no body, face", x.method(f, 0, 0, -99), 0);
        Check.due("field, face", x.method(f, 1, 1, 0), -3);
        Check.due("above, face", x.method(f, 1, 2, 0), -3);
        Check.due("field that is none", x.method(c, 1, 1, 0), -3);
        Check.due("field -1", x.method(c, 1, 1, -1), -3);
        Check.due("a number", x.method(c, 1, 4, Integer.MIN_VALUE), 0);
        Check.due("a field that is a method", x.method(c, 2, 1, 0), -3);
        Check.due("name again", x.method(c, 1, 2, 0), -3);
        Check.due("a field", x.field(c, 1, 8, false), 1);
        Check.due("a body of it", x.method(c, 2, 1, 1), 2);
        Check.due("of what is above", x.method(c, 3, 1, 10), -3);
        Check.due("above", x.method(c, 3, 2, -7), 3);
        Check.due("asks", x.method(c, 4, 3, 9), 4);
        Check.due("asks and one", x.method(c, 5, 5, 0), 5);
        for (int n = 6; n < 10; n++) {
            Check.due("method " + n, x.method(c, n, 4, n), n);
        }
        Check.due("eleventh", x.method(c, 0, 4, 0), -2);
        Check.due("eleventh, name again", x.method(c, 1, 4, 0), -2);
        Check.due("eleventh, bad", x.method(c, 1, 3, 10), -1);
        x.under(c, f);
        x.thing(c);
        Check.due("closed class", x.method(open, 7, 4, 0), -3);
        Check.due("closed face", x.method(f, 7, 4, 0), -3);
    }

    private static void foundByClass() {
        QueryHandles x = new QueryHandles();
        int a = x.cls(8, true);
        int b = x.cls(a, true);
        int c = x.cls(b, false);
        int f = x.face();
        x.under(c, f);
        Check.due("nothing", x.found(c, 0), -17);
        x.field(a, 0, 4, false);
        Check.due("a field is no method", x.found(c, 0), -17);
        x.method(f, 0, 4, 1);
        Check.due("lent", x.found(c, 0), 100 * f);
        Check.due("not above", x.found(b, 0), -17);
        x.method(a, 0, 4, 2);
        Check.due("a class goes ahead of a face", x.found(c, 0), 100 * a + 1);
        x.method(b, 0, 0, 0);
        Check.due("no body hides", x.found(c, 0), -17);
        Check.due("no body, itself", x.found(b, 0), -17);
        Check.due("not below", x.found(a, 0), 100 * a + 1);
        Check.due("a face is no class", x.found(f, 0), -1);
        Check.due("a lane is no class", x.found(4, 0), -1);
        Check.due("no name", x.found(c, 10), -1);
        Check.due("name -1", x.found(c, -1), -1);
        Check.due("no type", x.found(40, 0), -1);
    }

    private static void foundByFaces() {
        QueryHandles x = new QueryHandles();
        int top = x.face();
        int left = x.face();
        int right = x.face();
        int low = x.face();
        x.under(left, top);
        x.under(right, top);
        x.under(low, left);
        x.under(low, right);
        int a = x.cls(8, true);
        int c = x.cls(a, false);
        x.under(a, left);
        x.under(c, right);
        int d = x.cls(c, false);
        x.under(d, low);
        x.method(top, 1, 4, 0);
        Check.due("one on top, two ways", x.found(c, 1), 100 * top);
        x.method(left, 1, 0, 0);
        Check.due("no body of a face hides nothing", x.found(c, 1), 100 * top);
        x.method(right, 1, 4, 0);
        Check.due("below the top", x.found(c, 1), 100 * right);
        Check.due("the top alone is above", x.found(a, 1), 100 * top);
        x.method(left, 2, 4, 0);
        x.method(right, 2, 4, 0);
        Check.due("two", x.found(c, 2), -19);
        Check.due("one", x.found(a, 2), 100 * left + 1);
        Check.due("two for what is below", x.found(d, 2), -19);
        x.method(low, 2, 4, 0);
        Check.due("the lowest face settles it", x.found(d, 2), 100 * low);
        Check.due("not for the class above", x.found(c, 2), -19);
        Check.due("status()", x.status(), -19);
        x.method(c, 2, 4, 0);
        Check.due("a class settles it", x.found(c, 2), 100 * c);
        Check.due("and ahead of a lower face", x.found(d, 2), 100 * c);
    }

    private static void seen() {
        QueryHandles x = new QueryHandles();
        int a = x.cls(8, true);
        int b = x.cls(a, false);
        int c = x.cls(b, false);
        Check.due("nothing", x.seen(c, 3), -17);
        Check.due("ANY", x.seen(8, 3), -17);
        x.method(a, 3, 4, 0);
        Check.due("a method is no field", x.seen(c, 3), -17);
        x.field(a, 3, 4, true);
        Check.due("from above", x.seen(c, 3), 100 * a + 1);
        x.field(c, 3, 7, false);
        Check.due("hidden", x.seen(c, 3), 100 * c);
        Check.due("not hidden from between", x.seen(b, 3), 100 * a + 1);
        Check.due("no name", x.seen(c, 10), -1);
        Check.due("no class", x.seen(7, 3), -1);
        Check.due("a face", x.seen(x.face(), 3), -1);
        Check.due("status()", x.status(), -1);
    }

    public static void main(String[] args) {
        fields();
        methods();
        foundByClass();
        foundByFaces();
        seen();
        Check.end("MembersTest");
    }
}
