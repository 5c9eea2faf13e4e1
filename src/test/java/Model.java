import java.util.ArrayList;
import java.util.HashMap;
import java.util.LinkedHashSet;
import java.util.List;
import java.util.Map;

/**
 * The document once more, word by word and as slowly as it pleases, with the Java library, recursion
 * and the machine's own floats: what ModelTest holds QueryHandles against.
 */
final class Model {
    static final int NONE = -1, BAD = -1, FULL = -2, NO = -3;
    static final int NULL = -11, INDEX = -12, CAST = -13, STORE = -14, SIZE = -15, KIND = -16,
        LACKING = -17, DEEP = -18, TWO = -19;
    static final long LOST = Long.MIN_VALUE;
    /** The calls of which status() does not tell. */
    static final List<String> UNTOLD =
        List.of("status", "lane", "filled", "hit", "failed", "trace", "told");

    static final class Refused extends RuntimeException {
        private static final long serialVersionUID = 1L;
        final int why;

        Refused(int why) {
            super(null, null, false, false);
            this.why = why;
        }
    }

    record Erased(int base, int depth) { }

    record Read(int lane, long bits) { }

    static final class T {
        int number;
        String sort;
        boolean open;
        boolean closed;
        T above;
        T owner;
        T of;
        List<T> faces = new ArrayList<>();
        List<M> members = new ArrayList<>();
    }

    static final class M {
        T of;
        int number;
        int name;
        T type;
        boolean shared;
        long place;
        int body;
        int a;

        boolean isField() {
            return type != null;
        }

        int code() {
            return 100 * of.number + number;
        }
    }

    static final class O {
        Erased erased;
        long[] items;
        Map<M, Long> places;
    }

    record H(T cls, M field, int name) { }

    record C(int lane, long[] cells) { }

    record Q(H handle, int op, long v, boolean or) { }

    final List<T> types = new ArrayList<>();
    final List<O> things = new ArrayList<>();
    final List<H> handles = new ArrayList<>();
    final C[] columns = new C[6];
    final List<List<Q>> queries = new ArrayList<>();
    final List<Integer> trace = new ArrayList<>();
    List<Integer> hits = new ArrayList<>();
    int failedAt = NONE;
    int filledCount = 0;
    int laneTold = NONE;
    int why = 0;

    Model() {
        for (int i = 0; i < 8; i++) {
            make("lane");
        }
        make("class");
    }

    private T make(String sort) {
        T t = new T();
        t.number = types.size();
        t.sort = sort;
        types.add(t);
        return t;
    }

    private T made(String sort) {
        if (types.size() == 100) {
            throw new Refused(FULL);
        }
        return make(sort);
    }

    private static void refuse(boolean when, int why) {
        if (when) {
            throw new Refused(why);
        }
    }

    private T type(int n) {
        refuse(n < 0 || n >= types.size(), BAD);
        return types.get(n);
    }

    private T cl(int n) {
        T t = type(n);
        refuse(!t.sort.equals("class"), BAD);
        return t;
    }

    private T ownClass(int n) {
        refuse(n == 8, BAD);
        return cl(n);
    }

    private T membered(int n) {
        T t = type(n);
        refuse(n == 8 || !t.sort.equals("class") && !t.sort.equals("face"), BAD);
        return t;
    }

    private static void name(int n) {
        refuse(n < 0 || n > 9, BAD);
    }

    private static void lanes(int n) {
        refuse(n < 0 || n > 7, BAD);
    }

    /** null: NONE. */
    private O object(int n) {
        refuse(n < -1 || n >= things.size(), BAD);
        return n == -1 ? null : things.get(n);
    }

    private List<T> aboveOf(T c) {
        List<T> l = new ArrayList<>();
        for (T t = c; t != null; t = t.above) {
            l.add(t);
        }
        return l;
    }

    private LinkedHashSet<T> facesOf(T t) {
        LinkedHashSet<T> l = new LinkedHashSet<>();
        if (t.sort.equals("class")) {
            for (T c : aboveOf(t)) {
                addFaces(c, l);
            }
        } else {
            addFaces(t, l);
        }
        return l;
    }

    private void addFaces(T t, LinkedHashSet<T> l) {
        for (T f : t.faces) {
            if (l.add(f)) {
                addFaces(f, l);
            }
        }
    }

    private Erased erase(T t) {
        if (t.sort.equals("row")) {
            Erased e = erase(t.of);
            return new Erased(e.base, e.depth + 1);
        }
        return t.sort.equals("variable") ? erase(t.of) : new Erased(t.number, 0);
    }

    private boolean isUnder(Erased s, Erased t) {
        if (s.depth == t.depth) {
            if (s.base == t.base) {
                return true;
            }
            if (s.base < 8 || t.base < 8) {
                return false;
            }
            T sb = types.get(s.base);
            T tb = types.get(t.base);
            return t.base == 8 || sb.sort.equals("class") && aboveOf(sb).contains(tb)
                || facesOf(sb).contains(tb);
        }
        return s.depth > t.depth && t.base == 8;
    }

    private static boolean isLane(Erased e) {
        return e.base < 8 && e.depth == 0;
    }

    private M methodOf(T t, int name) {
        for (M m : t.members) {
            if (!m.isField() && m.name == name) {
                return m;
            }
        }
        return null;
    }

    private M fieldOf(T t, int name) {
        for (M m : t.members) {
            if (m.isField() && m.name == name) {
                return m;
            }
        }
        return null;
    }

    private M find(T c, int name) {
        for (T t : aboveOf(c)) {
            M m = methodOf(t, name);
            if (m != null) {
                refuse(m.body == 0, LACKING);
                return m;
            }
        }
        List<T> lend = new ArrayList<>();
        for (T f : facesOf(c)) {
            M m = methodOf(f, name);
            if (m != null && m.body != 0) {
                lend.add(f);
            }
        }
        List<T> least = new ArrayList<>();
        for (T f : lend) {
            boolean upper = false;
            for (T g : lend) {
                upper |= g != f && facesOf(g).contains(f);
            }
            if (!upper) {
                least.add(f);
            }
        }
        refuse(least.isEmpty(), LACKING);
        refuse(least.size() > 1, TWO);
        return methodOf(least.get(0), name);
    }

    private M see(T c, int name) {
        for (T t : aboveOf(c)) {
            M m = fieldOf(t, name);
            if (m != null) {
                return m;
            }
        }
        throw new Refused(LACKING);
    }

    // ---- values, by the machine's own casts

    static long bitsOf(float f) {
        return Float.floatToIntBits(f);
    }

    static long bitsOf(double d) {
        return Double.doubleToLongBits(d);
    }

    static long fromBits(int lane, long bits) {
        switch (lane) {
            case 0: return bits != 0 ? 1 : 0;
            case 1: return (byte) bits;
            case 2: return (short) bits;
            case 3: return (char) bits;
            case 4: return (int) bits;
            case 5: return bits;
            case 6: return bitsOf(Float.intBitsToFloat((int) bits));
            default: return bitsOf(Double.longBitsToDouble(bits));
        }
    }

    static long widen(int from, long bits, int to) {
        if (from == to) {
            return bits;
        }
        String fine = from == 1 ? "24567" : from == 2 || from == 3 ? "4567" : from == 4 ? "567"
            : from == 5 ? "67" : from == 6 ? "7" : "";
        refuse(fine.indexOf((char) ('0' + to)) < 0, KIND);
        if (to < 6) {
            return bits;
        }
        if (from == 6) {
            return bitsOf((double) Float.intBitsToFloat((int) bits));
        }
        return to == 6 ? bitsOf((float) bits) : bitsOf((double) bits);
    }

    private long put(Erased e, long v) {
        if (isLane(e)) {
            return fromBits(e.base, v);
        }
        refuse(v != -1 && (v < 0 || v >= things.size()), STORE);
        refuse(v != -1 && !isUnder(things.get((int) v).erased, e), STORE);
        return v;
    }

    // ---- reading

    private void check(H h, O o) {
        refuse(o == null, NULL);
        refuse(!isUnder(o.erased, new Erased(h.cls.number, 0)), CAST);
    }

    private Read fieldRead(M f, O o) {
        Erased e = erase(f.type);
        return new Read(isLane(e) ? e.base : 8, f.shared ? f.place : o.places.get(f));
    }

    private Read reading(H h, O o) {
        if (h.field != null && h.field.shared) {
            return fieldRead(h.field, o);
        }
        check(h, o);
        return h.field != null ? fieldRead(h.field, o)
            : body(find(types.get(o.erased.base), h.name), o, 1);
    }

    private Read body(M m, O o, int open) {
        refuse(open > 12, DEEP);
        trace.add(m.code());
        T own = types.get(o.erased.base);
        switch (m.body) {
            case 1: return fieldRead(m.of.members.get(m.a), o);
            case 2: return body(find(m.of.above, m.name), o, open + 1);
            case 3: return body(find(own, m.a), o, open + 1);
            case 4: return new Read(4, m.a);
            default:
                Read r = body(find(own, m.a), o, open + 1);
                refuse(r.lane < 1 || r.lane > 5, KIND);
                return new Read(5, r.bits + 1);
        }
    }

    private long toLane(Read r, int lane) {
        refuse(r.lane == 8, KIND);
        return widen(r.lane, r.bits, lane);
    }

    // ---- the calls, by name

    long call(String call, long[] p) {
        if (!UNTOLD.contains(call)) {
            why = 0;
        }
        try {
            return answer(call, p);
        } catch (Refused r) {
            if (UNTOLD.contains(call)) {
                return r.why;
            }
            why = r.why;
            return isLong(call) ? LOST : r.why;
        }
    }

    /** What a call would answer that changes nothing, without being told of. */
    long peek(String call, long... p) {
        int before = why;
        long answer = call(call, p);
        why = before;
        return answer;
    }

    static boolean isLong(String call) {
        return List.of("read", "readAs", "get", "getAs", "cell", "sum", "total", "digest").contains(call);
    }

    private long answer(String call, long[] p) {
        int a = p.length > 0 ? (int) p[0] : 0;
        int b = p.length > 1 ? (int) p[1] : 0;
        int c = p.length > 2 ? (int) p[2] : 0;
        switch (call) {
            case "cls": return cls(a, p[1] != 0);
            case "face": return made("face").number;
            case "under": return under(a, b);
            case "variable": return variable(a, b);
            case "row": return row(a);
            case "erased": {
                Erased e = erase(type(a));
                refuse(b < 0 || b > 1, BAD);
                return b == 0 ? e.base : e.depth;
            }
            case "is": return isUnder(erase(type(a)), erase(type(b))) ? 1 : 0;
            case "field": return field(a, b, c, p[3] != 0);
            case "method": return method(a, b, c, (int) p[3]);
            case "found": {
                T t = cl(a);
                name(b);
                return find(t, b).code();
            }
            case "seen": {
                T t = cl(a);
                name(b);
                return see(t, b).code();
            }
            case "thing": return thing(a);
            case "things": return things(a, b);
            case "kind": {
                O o = object(a);
                refuse(b < 0 || b > 2, BAD);
                refuse(o == null, NULL);
                return b == 0 ? o.erased.base : b == 1 ? o.erased.depth
                    : o.items != null ? o.items.length : o.places.size();
            }
            case "isA": {
                O o = object(a);
                T t = type(b);
                refuse(o == null, NULL);
                return isUnder(o.erased, erase(t)) ? 1 : 0;
            }
            case "read": return item(a, b).items[b];
            case "write": {
                O o = item(a, b);
                o.items[b] = put(new Erased(o.erased.base, o.erased.depth - 1), p[2]);
                return 1;
            }
            case "readAs": {
                O o = laneItem(a, b, c);
                return widen(o.erased.base, o.items[b], c);
            }
            case "writeAs": {
                O o = laneItem(a, b, c);
                o.items[b] = widen(c, fromBits(c, p[3]), o.erased.base);
                return 1;
            }
            default: return laterAnswer(call, p, a, b, c);
        }
    }

    private long laterAnswer(String call, long[] p, int a, int b, int c) {
        switch (call) {
            case "handle": return handle(a, b, p[2] != 0);
            case "get": {
                H h = handleAt(a);
                O o = object(b);
                trace.clear();
                Read r = reading(h, o);
                laneTold = r.lane;
                return r.bits;
            }
            case "lane": return laneTold;
            case "getAs": {
                H h = handleAt(a);
                O o = object(b);
                lanes(c);
                trace.clear();
                return toLane(reading(h, o), c);
            }
            case "set": return set(a, b, p[2]);
            case "column": {
                refuse(a < 0 || a > 5, BAD);
                lanes(b);
                refuse(c > 60, BAD);
                refuse(c < 0, SIZE);
                columns[a] = new C(b, new long[c]);
                return c;
            }
            case "fill": return fill(a, b);
            case "filled": return filledCount;
            case "cell": {
                C col = columnAt(a);
                refuse(b < 0 || b >= col.cells.length, INDEX);
                return col.cells[b];
            }
            case "sum": return sum(columnAt(a));
            case "query": {
                refuse(queries.size() == 20, FULL);
                queries.add(new ArrayList<>());
                return queries.size() - 1;
            }
            case "test": {
                refuse(a < 0 || a >= queries.size(), BAD);
                H h = handleAt(b);
                refuse(c < 0 || c > 5, BAD);
                refuse(queries.get(a).size() == 8, FULL);
                queries.get(a).add(new Q(h, c, p[3], p[4] != 0));
                return queries.get(a).size();
            }
            case "run": return run(a, b, c);
            case "hit": {
                refuse(a < 0 || a >= hits.size(), BAD);
                return hits.get(a);
            }
            case "failed": return failedAt;
            case "total": return total(handleAt(a));
            case "trace": return a < 0 || a >= Math.min(60, trace.size()) ? NONE : trace.get(a);
            case "told": return told(a);
            case "status": return why;
            case "digest": return digest();
            default: throw new IllegalArgumentException(call);
        }
    }

    private int cls(int above, boolean open) {
        T up = cl(above);
        T t = made("class");
        t.above = up;
        t.open = open;
        return t.number;
    }

    private int under(int type, int face) {
        T t = membered(type);
        T f = type(face);
        refuse(!f.sort.equals("face"), BAD);
        refuse(t.faces.size() == 4, FULL);
        refuse(t.closed || t.faces.contains(f), NO);
        refuse(t.sort.equals("face") && (t == f || facesOf(f).contains(t)), NO);
        t.faces.add(f);
        return t.faces.size();
    }

    private int variable(int cls, int bound) {
        T c = ownClass(cls);
        T b = type(bound);
        refuse(bound < 8, BAD);
        T t = made("variable");
        t.owner = c;
        t.of = b;
        return t.number;
    }

    private int row(int type) {
        T of = type(type);
        for (T t : types) {
            if (t.sort.equals("row") && t.of == of) {
                return t.number;
            }
        }
        T t = made("row");
        t.of = of;
        return t.number;
    }

    private int field(int cls, int name, int type, boolean shared) {
        T c = ownClass(cls);
        name(name);
        T t = type(type);
        refuse(c.members.size() == 10, FULL);
        refuse(c.closed || fieldOf(c, name) != null, NO);
        T inner = t;
        while (inner.sort.equals("row")) {
            inner = inner.of;
        }
        refuse(inner.sort.equals("variable") && inner.owner != c, NO);
        M m = member(c, name);
        m.type = t;
        m.shared = shared;
        m.place = isLane(erase(t)) ? 0 : NONE;
        return m.number;
    }

    private M member(T t, int name) {
        M m = new M();
        m.of = t;
        m.number = t.members.size();
        m.name = name;
        t.members.add(m);
        return m;
    }

    private int method(int type, int name, int body, int a) {
        T t = membered(type);
        name(name);
        refuse(body < 0 || body > 5, BAD);
        if (body == 3 || body == 5) {
            name(a);
        }
        boolean isFace = t.sort.equals("face");
        refuse(t.members.size() == 10, FULL);
        refuse(t.closed || methodOf(t, name) != null, NO);
        refuse(isFace && (body == 1 || body == 2), NO);
        refuse(!isFace && !t.open && body == 0, NO);
        refuse(body == 1 && (a < 0 || a >= t.members.size() || !t.members.get(a).isField()), NO);
        M m = member(t, name);
        m.body = body;
        m.a = a;
        return m.number;
    }

    private int thing(int cls) {
        T c = cl(cls);
        refuse(things.size() == 60, FULL);
        refuse(c.open, NO);
        O o = new O();
        o.erased = new Erased(cls, 0);
        o.places = new HashMap<>();
        for (T t : aboveOf(c)) {
            t.closed = true;
            for (M m : t.members) {
                if (m.isField() && !m.shared) {
                    o.places.put(m, isLane(erase(m.type)) ? 0L : -1L);
                }
            }
        }
        for (T f : facesOf(c)) {
            f.closed = true;
        }
        things.add(o);
        return things.size() - 1;
    }

    private int things(int type, int n) {
        Erased e = erase(type(type));
        refuse(n > 12, BAD);
        refuse(things.size() == 60, FULL);
        refuse(n < 0, SIZE);
        O o = new O();
        o.erased = new Erased(e.base, e.depth + 1);
        o.items = new long[n];
        for (int i = 0; i < n; i++) {
            o.items[i] = isLane(e) ? 0 : -1;
        }
        things.add(o);
        return things.size() - 1;
    }

    private O item(int thing, int i) {
        O o = object(thing);
        refuse(o == null, NULL);
        refuse(o.items == null, CAST);
        refuse(i < 0 || i >= o.items.length, INDEX);
        return o;
    }

    private O laneItem(int thing, int i, int lane) {
        O o = object(thing);
        lanes(lane);
        refuse(o == null, NULL);
        refuse(o.items == null || o.erased.depth != 1 || o.erased.base > 7, KIND);
        refuse(i < 0 || i >= o.items.length, INDEX);
        return o;
    }

    private int handle(int cls, int name, boolean method) {
        T c = cl(cls);
        name(name);
        refuse(handles.size() == 40, FULL);
        M field = null;
        if (method) {
            boolean some = false;
            for (T t : aboveOf(c)) {
                some |= methodOf(t, name) != null;
            }
            for (T t : facesOf(c)) {
                some |= methodOf(t, name) != null;
            }
            refuse(!some, LACKING);
        } else {
            field = see(c, name);
        }
        handles.add(new H(c, field, name));
        return handles.size() - 1;
    }

    private H handleAt(int n) {
        refuse(n < 0 || n >= handles.size(), BAD);
        return handles.get(n);
    }

    private int set(int handle, int thing, long v) {
        H h = handleAt(handle);
        O o = object(thing);
        refuse(h.field == null, NO);
        if (!h.field.shared) {
            check(h, o);
        }
        long bits = put(erase(h.field.type), v);
        if (h.field.shared) {
            h.field.place = bits;
        } else {
            o.places.put(h.field, bits);
        }
        return 1;
    }

    private C columnAt(int k) {
        refuse(k < 0 || k > 5, BAD);
        refuse(columns[k] == null, NULL);
        return columns[k];
    }

    private int fill(int k, int handle) {
        refuse(k < 0 || k > 5, BAD);
        H h = handleAt(handle);
        C c = columnAt(k);
        trace.clear();
        filledCount = 0;
        for (O o : things) {
            if (isUnder(o.erased, new Erased(h.cls.number, 0))) {
                Read r = reading(h, o);
                refuse(r.lane == 8, KIND);
                refuse(filledCount == c.cells.length, INDEX);
                c.cells[filledCount] = widen(r.lane, r.bits, c.lane);
                filledCount++;
            }
        }
        return filledCount;
    }

    private long sum(C c) {
        if (c.lane < 6) {
            long s = 0;
            for (long n : c.cells) {
                s += n;
            }
            return s;
        }
        double s = 0.0;
        for (long n : c.cells) {
            double d = c.lane == 6 ? Float.intBitsToFloat((int) n) : Double.longBitsToDouble(n);
            if (!Double.isNaN(d) && !Double.isInfinite(d)) {
                s += d;
            }
        }
        return bitsOf(s);
    }

    private int run(int query, int first, int n) {
        refuse(query < 0 || query >= queries.size(), BAD);
        refuse(first < 0 || first > 59 || n < 0 || n > 60, BAD);
        List<Q> tests = queries.get(query);
        refuse(tests.isEmpty(), NO);
        hits = new ArrayList<>();
        failedAt = NONE;
        trace.clear();
        for (int i = first; i < first + n && i < things.size(); i++) {
            O o = things.get(i);
            if (isUnder(o.erased, new Erased(tests.get(0).handle.cls.number, 0))) {
                failedAt = i;
                if (isHit(tests, o)) {
                    hits.add(i);
                }
                failedAt = NONE;
            }
        }
        return hits.size();
    }

    private boolean isHit(List<Q> tests, O o) {
        boolean so = holds(tests.get(0), o);
        for (Q q : tests.subList(1, tests.size())) {
            so = q.or ? so || holds(q, o) : so && holds(q, o);
        }
        return so;
    }

    private boolean holds(Q q, O o) {
        Read r = reading(q.handle, o);
        refuse(r.lane == 8, KIND);
        if (r.lane < 6) {
            long v = r.bits;
            switch (q.op) {
                case 0: return v < q.v;
                case 1: return v <= q.v;
                case 2: return v == q.v;
                case 3: return v != q.v;
                case 4: return v >= q.v;
                default: return v > q.v;
            }
        }
        double d = r.lane == 6 ? Float.intBitsToFloat((int) r.bits) : Double.longBitsToDouble(r.bits);
        double e = (double) q.v;
        switch (q.op) {
            case 0: return d < e;
            case 1: return d <= e;
            case 2: return d == e;
            case 3: return d != e;
            case 4: return d >= e;
            default: return d > e;
        }
    }

    private long total(H h) {
        trace.clear();
        long s = 0;
        for (int i : hits) {
            Read r = reading(h, things.get(i));
            refuse(r.lane > 5, KIND);
            s += r.bits;
        }
        return s;
    }

    private int told(int what) {
        int closed = 0;
        int classes = -1;
        for (T t : types) {
            closed += t.closed ? 1 : 0;
            classes += t.sort.equals("class") ? 1 : 0;
        }
        refuse(what < 0 || what > 7, BAD);
        return List.of(types.size() - 9, things.size(), handles.size(), queries.size(),
            Math.min(60, trace.size()), hits.size(), closed, classes).get(what);
    }

    private long digest() {
        List<Long> l = new ArrayList<>();
        for (O o : things) {
            l.add((long) o.erased.base);
            l.add((long) o.erased.depth);
            if (o.items != null) {
                for (long n : o.items) {
                    l.add(n);
                }
            } else {
                for (T t : aboveOf(types.get(o.erased.base))) {
                    for (M m : t.members) {
                        if (m.isField() && !m.shared) {
                            l.add(o.places.get(m));
                        }
                    }
                }
            }
        }
        for (T t : types) {
            for (M m : t.members) {
                if (m.isField() && m.shared) {
                    l.add(m.place);
                }
            }
        }
        for (C c : columns) {
            if (c != null) {
                l.add((long) c.lane);
                for (long n : c.cells) {
                    l.add(n);
                }
            }
        }
        long h = 17;
        for (long n : l) {
            h = 31 * h + n;
        }
        return h;
    }
}
