/**
 * Queries over things by handles. DOC.md tells in numbered promises what each call answers; words
 * in capitals in the comments here are that document's terms.
 */
public final class QueryHandles {
    public static final int NONE = -1, BAD = -1, FULL = -2, NO = -3;
    public static final long LOST = Long.MIN_VALUE;

    private static final int NULL = -11, INDEX = -12, CAST = -13, STORE = -14, SIZE = -15;
    private static final int KIND = -16, LACKING = -17, DEEP = -18, TWO = -19;

    private static final int TRUTH = 0, BYTE = 1, SHORT = 2, CHAR = 3;
    private static final int INT = 4, LONG = 5, FLOAT = 6, DOUBLE = 7;
    private static final int ANY = 8, FIRST_MADE = 9;
    /** What lane() tells of a THING or NONE: one more than the last LANE. */
    private static final int NO_LANE = 8;

    private static final int LANE_SORT = 0, CLASS_SORT = 1, FACE_SORT = 2;
    private static final int VARIABLE_SORT = 3, ROW_SORT = 4;

    private static final int NO_BODY = 0, TELLS_FIELD = 1, ABOVE = 2;
    private static final int ASKS = 3, TELLS_INT = 4, ASKS_AND_ONE = 5;

    private static final int MOST_TYPES = 100, MOST_FACES = 4, MOST_MEMBERS = 10, NAMES = 10;
    private static final int MOST_THINGS = 60, MOST_ITEMS = 12, MOST_HANDLES = 40;
    private static final int MOST_BODIES = 12, MOST_TRACE = 60;
    private static final int COLUMNS = 6, MOST_CELLS = 60, MOST_QUERIES = 20, MOST_TESTS = 8;

    private final Types types;
    private final Things things;
    private final Reader reader;
    private final Column[] columns;
    private final Query[] queries;
    private final int[] hits;
    private int queryCount;
    private int hitCount;
    private int failedAt;
    private int filledCount;
    private int laneTold;
    private int refusal;

    public QueryHandles() {
        types = new Types();
        things = new Things(types);
        reader = new Reader(types, things);
        columns = new Column[COLUMNS];
        queries = new Query[MOST_QUERIES];
        hits = new int[MOST_THINGS];
        failedAt = NONE;
        laneTold = NONE;
    }

    // ---- 1 types

    public int cls(int above, boolean open) {
        return answered(types.addClass(above, open));
    }

    public int face() {
        return answered(types.addFace());
    }

    public int under(int type, int face) {
        return answered(types.tellFace(type, face));
    }

    public int variable(int cls, int bound) {
        return answered(types.addVariable(cls, bound));
    }

    public int row(int type) {
        return answered(types.rowOf(type));
    }

    public int erased(int type, int what) {
        Type t = types.at(type);
        if (t == null || what < 0 || what > 1) {
            return answered(BAD);
        }
        return answered(what == 0 ? t.base : t.depth);
    }

    public int is(int s, int t) {
        Type below = types.at(s);
        Type upper = types.at(t);
        if (below == null || upper == null) {
            return answered(BAD);
        }
        boolean so = types.isUnder(below.base, below.depth, upper.base, upper.depth);
        return answered(so ? 1 : 0);
    }

    // ---- 2 members

    public int field(int cls, int name, int type, boolean shared) {
        return answered(types.addField(cls, name, type, shared));
    }

    public int method(int type, int name, int body, int a) {
        return answered(types.addMethod(type, name, body, a));
    }

    public int found(int cls, int name) {
        Type c = types.classAt(cls);
        return answered(c == null || !isName(name) ? BAD : types.bodyFor(c, name));
    }

    public int seen(int cls, int name) {
        Type c = types.classAt(cls);
        if (c == null || !isName(name)) {
            return answered(BAD);
        }
        Member m = types.fieldFrom(c, name);
        return answered(m == null ? LACKING : m.code());
    }

    // ---- 3 things

    public int thing(int cls) {
        return answered(things.addOfClass(cls));
    }

    public int things(int type, int n) {
        return answered(things.addRow(type, n));
    }

    public int kind(int thing, int what) {
        Thing t = things.at(thing);
        if (isNoThing(thing, t) || what < 0 || what > 2) {
            return answered(BAD);
        }
        if (t == null) {
            return answered(NULL);
        }
        if (what == 2) {
            return answered(t.items.length);
        }
        return answered(what == 0 ? t.base : t.depth);
    }

    public int isA(int thing, int type) {
        Thing t = things.at(thing);
        Type upper = types.at(type);
        if (isNoThing(thing, t) || upper == null) {
            return answered(BAD);
        }
        if (t == null) {
            return answered(NULL);
        }
        return answered(types.isThingUnder(t, upper) ? 1 : 0);
    }

    public long read(int thing, int i) {
        Thing t = things.at(thing);
        if (isNoThing(thing, t)) {
            return lostOr(BAD, LOST);
        }
        int why = whyNoItem(t, i);
        return why != 0 || t == null ? lostOr(why, LOST) : lostOr(0, t.items[i]);
    }

    public int write(int thing, int i, long v) {
        Thing t = things.at(thing);
        if (isNoThing(thing, t)) {
            return answered(BAD);
        }
        int why = whyNoItem(t, i);
        if (why != 0 || t == null) {
            return answered(why);
        }
        if (!things.mayHold(t.base, t.depth - 1, v)) {
            return answered(STORE);
        }
        t.items[i] = held(t.base, t.depth - 1, v);
        return answered(1);
    }

    public long readAs(int thing, int i, int lane) {
        Thing t = things.at(thing);
        if (isNoThing(thing, t) || !isLane(lane)) {
            return lostOr(BAD, LOST);
        }
        int why = whyNoLaneItem(t, i);
        if (why != 0 || t == null) {
            return lostOr(why, LOST);
        }
        if (!Lanes.widens(t.base, lane)) {
            return lostOr(KIND, LOST);
        }
        return lostOr(0, Lanes.widened(t.items[i], t.base, lane));
    }

    public int writeAs(int thing, int i, int lane, long bits) {
        Thing t = things.at(thing);
        if (isNoThing(thing, t) || !isLane(lane)) {
            return answered(BAD);
        }
        int why = whyNoLaneItem(t, i);
        if (why != 0 || t == null) {
            return answered(why);
        }
        if (!Lanes.widens(lane, t.base)) {
            return answered(KIND);
        }
        t.items[i] = Lanes.widened(Lanes.fit(lane, bits), lane, t.base);
        return answered(1);
    }

    // ---- 4 handles

    public int handle(int cls, int name, boolean method) {
        return answered(reader.addHandle(cls, name, method));
    }

    public long get(int handle, int thing) {
        Handle h = reader.handleAt(handle);
        if (h == null || isNoThing(thing, things.at(thing))) {
            return lostOr(BAD, LOST);
        }
        reader.traceCount = 0;
        int why = reader.readBy(h, things.at(thing));
        if (why == 0) {
            laneTold = reader.laneRead;
        }
        return lostOr(why, reader.bitsRead);
    }

    public int lane() {
        return laneTold;
    }

    public long getAs(int handle, int thing, int lane) {
        Handle h = reader.handleAt(handle);
        if (h == null || isNoThing(thing, things.at(thing)) || !isLane(lane)) {
            return lostOr(BAD, LOST);
        }
        reader.traceCount = 0;
        int why = reader.readBy(h, things.at(thing));
        if (why != 0) {
            return lostOr(why, LOST);
        }
        if (!Lanes.widens(reader.laneRead, lane)) {
            return lostOr(KIND, LOST);
        }
        return lostOr(0, Lanes.widened(reader.bitsRead, reader.laneRead, lane));
    }

    public int set(int handle, int thing, long v) {
        Handle h = reader.handleAt(handle);
        if (h == null || isNoThing(thing, things.at(thing))) {
            return answered(BAD);
        }
        return answered(h.field == null ? NO : reader.writeField(h, things.at(thing), v));
    }

    // ---- 5 columns

    public int column(int k, int lane, int n) {
        if (!isColumn(k) || !isLane(lane) || n > MOST_CELLS) {
            return answered(BAD);
        }
        if (n < 0) {
            return answered(SIZE);
        }
        columns[k] = new Column(lane, n);
        return answered(n);
    }

    public int fill(int k, int handle) {
        Handle h = reader.handleAt(handle);
        if (!isColumn(k) || h == null) {
            return answered(BAD);
        }
        Column c = columns[k];
        if (c == null) {
            return answered(NULL);
        }
        reader.traceCount = 0;
        filledCount = 0;
        for (int n = 0; n < things.count; n++) {
            Thing t = things.at(n);
            if (t == null || !types.isThingUnder(t, h.cls)) {
                continue;
            }
            int why = fillNext(c, h, t);
            if (why != 0) {
                return answered(why);
            }
        }
        return answered(filledCount);
    }

    public int filled() {
        return filledCount;
    }

    public long cell(int k, int i) {
        if (!isColumn(k)) {
            return lostOr(BAD, LOST);
        }
        Column c = columns[k];
        if (c == null) {
            return lostOr(NULL, LOST);
        }
        if (i < 0 || i >= c.cells.length) {
            return lostOr(INDEX, LOST);
        }
        return lostOr(0, c.cells[i]);
    }

    public long sum(int k) {
        if (!isColumn(k)) {
            return lostOr(BAD, LOST);
        }
        Column c = columns[k];
        if (c == null) {
            return lostOr(NULL, LOST);
        }
        return lostOr(0, c.lane >= FLOAT ? c.sumAsDouble() : c.sumAsLong());
    }

    // ---- 6 queries

    public int query() {
        if (queryCount >= MOST_QUERIES) {
            return answered(FULL);
        }
        queries[queryCount] = new Query();
        queryCount++;
        return answered(queryCount - 1);
    }

    public int test(int query, int handle, int op, long v, boolean or) {
        Query q = queryAt(query);
        Handle h = reader.handleAt(handle);
        if (q == null || h == null || op < 0 || op > 5) {
            return answered(BAD);
        }
        return answered(q.addTest(h, op, v, or));
    }

    public int run(int query, int first, int n) {
        Query q = queryAt(query);
        if (q == null || first < 0 || first >= MOST_THINGS || n < 0 || n > MOST_THINGS) {
            return answered(BAD);
        }
        Handle lead = q.handles[0];
        if (q.count == 0 || lead == null) {
            return answered(NO);
        }
        reader.traceCount = 0;
        hitCount = 0;
        failedAt = NONE;
        int end = Math.min(first + n, things.count);
        for (int i = first; i < end; i++) {
            Thing t = things.at(i);
            if (t == null || !types.isThingUnder(t, lead.cls)) {
                continue;
            }
            int held = holds(q, t);
            if (held < 0) {
                failedAt = i;
                return answered(held);
            }
            if (held == 1 && hitCount < hits.length) {
                hits[hitCount] = i;
                hitCount++;
            }
        }
        return answered(hitCount);
    }

    public int hit(int k) {
        return k < 0 || k >= hitCount ? BAD : hits[k];
    }

    public int failed() {
        return failedAt;
    }

    public long total(int handle) {
        Handle h = reader.handleAt(handle);
        if (h == null) {
            return lostOr(BAD, LOST);
        }
        reader.traceCount = 0;
        long together = 0;
        for (int k = 0; k < hitCount; k++) {
            int why = reader.readBy(h, things.at(hits[k]));
            if (why == 0 && reader.laneRead > LONG) {
                why = KIND;
            }
            if (why != 0) {
                return lostOr(why, LOST);
            }
            together += reader.bitsRead;
        }
        return lostOr(0, together);
    }

    // ---- 7 what is told

    public int trace(int i) {
        return i < 0 || i >= reader.traceCount ? NONE : reader.traced[i];
    }

    public int told(int what) {
        switch (what) {
            case 0: return types.count - FIRST_MADE;
            case 1: return things.count;
            case 2: return reader.handleCount;
            case 3: return queryCount;
            case 4: return reader.traceCount;
            case 5: return hitCount;
            case 6: return types.closedCount;
            case 7: return types.classCount;
            default: return BAD;
        }
    }

    public int status() {
        return refusal;
    }

    public long digest() {
        long h = things.mixedInto(17);
        h = types.sharedMixedInto(h);
        for (int k = 0; k < COLUMNS; k++) {
            Column c = columns[k];
            if (c != null) {
                h = mixed(31 * h + c.lane, c.cells);
            }
        }
        return lostOr(0, h);
    }

    // ---- what the calls have in common

    private int answered(int answer) {
        refusal = answer < 0 ? answer : 0;
        return answer;
    }

    private long lostOr(int why, long value) {
        refusal = why;
        return why == 0 ? value : LOST;
    }

    private static boolean isName(int name) {
        return name >= 0 && name < NAMES;
    }

    private static boolean isLane(int lane) {
        return lane >= TRUTH && lane <= DOUBLE;
    }

    private static boolean isColumn(int k) {
        return k >= 0 && k < COLUMNS;
    }

    /** A number that is neither a THING's nor NONE is refused as BAD; NONE is a matter of NULL. */
    private static boolean isNoThing(int number, Thing t) {
        return t == null && number != NONE;
    }

    private static boolean holdsValue(int base, int depth) {
        return depth == 0 && base < ANY;
    }

    /** What a PLACE or item of that ERASED TYPE keeps of a number that is PUT there. */
    private static long held(int base, int depth, long v) {
        return holdsValue(base, depth) ? Lanes.fit(base, v) : v;
    }

    private static long mixed(long h, long[] numbers) {
        long mix = h;
        for (int i = 0; i < numbers.length; i++) {
            mix = 31 * mix + numbers[i];
        }
        return mix;
    }

    /** The number of the highest bit that is set, -1 of 0. */
    private static int topBit(long size) {
        int top = size == 0 ? -1 : 0;
        long rest = size;
        for (int half = 32; half > 0; half /= 2) {
            if (rest >>> half != 0) {
                rest >>>= half;
                top += half;
            }
        }
        return top;
    }

    private static int whyNoItem(Thing t, int i) {
        if (t == null) {
            return NULL;
        }
        if (t.depth == 0) {
            return CAST;
        }
        return i < 0 || i >= t.items.length ? INDEX : 0;
    }

    private static int whyNoLaneItem(Thing t, int i) {
        if (t == null) {
            return NULL;
        }
        if (!holdsValue(t.base, t.depth - 1)) {
            return KIND;
        }
        return i < 0 || i >= t.items.length ? INDEX : 0;
    }

    private int fillNext(Column c, Handle h, Thing t) {
        int why = reader.readBy(h, t);
        if (why != 0) {
            return why;
        }
        if (reader.laneRead == NO_LANE) {
            return KIND;
        }
        if (filledCount >= c.cells.length) {
            return INDEX;
        }
        if (!Lanes.widens(reader.laneRead, c.lane)) {
            return KIND;
        }
        c.cells[filledCount] = Lanes.widened(reader.bitsRead, reader.laneRead, c.lane);
        filledCount++;
        return 0;
    }

    private Query queryAt(int number) {
        return number < 0 || number >= queryCount ? null : queries[number];
    }

    /** 1, 0: whether the TESTS hold of a THING; or the FINDING that ended them. */
    private int holds(Query q, Thing t) {
        boolean so = false;
        for (int k = 0; k < q.count; k++) {
            if (k > 0 && so == q.ors[k]) {
                continue;
            }
            int why = reader.readBy(q.handles[k], t);
            if (why == 0 && reader.laneRead == NO_LANE) {
                why = KIND;
            }
            if (why != 0) {
                return why;
            }
            so = Lanes.compares(reader.bitsRead, reader.laneRead, q.ops[k], q.numbers[k]);
        }
        return so ? 1 : 0;
    }

    /** A set of TYPES; two words hold it, so that looking up BODIES makes no objects. */
    private static final class TypeSet {
        private long low;
        private long high;

        boolean has(int type) {
            long word = type < 64 ? low : high;
            return ((word >>> (type & 63)) & 1L) != 0;
        }

        void add(int type) {
            long bit = 1L << (type & 63);
            if (type < 64) {
                low |= bit;
            } else {
                high |= bit;
            }
        }

        void addAll(TypeSet other) {
            low |= other.low;
            high |= other.high;
        }

        void removeAll(TypeSet other) {
            low &= ~other.low;
            high &= ~other.high;
        }

        void becomeBoth(TypeSet one, TypeSet other) {
            low = one.low & other.low;
            high = one.high & other.high;
        }

        int size() {
            return Long.bitCount(low) + Long.bitCount(high);
        }

        /** -1, if it is empty. */
        int last() {
            return high != 0 ? 64 + topBit(high) : topBit(low);
        }
    }

    private static final class Type {
        final int number;
        final int sort;
        /** The CLASS that a CLASS is below, the BOUND of a VARIABLE, what a ROW is of. */
        final Type from;
        /** The CLASS whose VARIABLE this is, or this is a ROW of, of rows of and so on. */
        final Type owner;
        final boolean open;
        final int base;
        final int depth;
        /** The CLASSES ABOVE it and the FACES OF it, kept whole as FACES are told. */
        final TypeSet uppers;
        final TypeSet facesTold;
        final Member[] members;
        final Member[] fieldsByName;
        final Member[] methodsByName;
        int memberCount;
        int placeCount;
        boolean closed;
        int row;

        Type(int number, int sort, Type from, Type owner, boolean open) {
            this.number = number;
            this.sort = sort;
            this.from = from;
            this.owner = owner;
            this.open = open;
            boolean hidesBase = from != null && (sort == VARIABLE_SORT || sort == ROW_SORT);
            base = hidesBase ? from.base : number;
            depth = hidesBase ? from.depth + (sort == ROW_SORT ? 1 : 0) : 0;
            uppers = new TypeSet();
            facesTold = new TypeSet();
            if (sort == CLASS_SORT) {
                uppers.add(number);
                if (from != null) {
                    uppers.addAll(from.uppers);
                }
            }
            boolean hasMembers = sort == FACE_SORT || sort == CLASS_SORT && number != ANY;
            members = new Member[hasMembers ? MOST_MEMBERS : 0];
            fieldsByName = new Member[hasMembers ? NAMES : 0];
            methodsByName = new Member[hasMembers ? NAMES : 0];
            row = NONE;
        }

        Member memberAt(int n) {
            return n < 0 || n >= memberCount ? null : members[n];
        }

        Member fieldNamed(int name) {
            return name < 0 || name >= fieldsByName.length ? null : fieldsByName[name];
        }

        Member methodNamed(int name) {
            return name < 0 || name >= methodsByName.length ? null : methodsByName[name];
        }

        int keepMember(Member m) {
            if (memberCount >= members.length || m.name < 0 || m.name >= NAMES) {
                return FULL;
            }
            members[memberCount] = m;
            memberCount++;
            if (m.isField()) {
                fieldsByName[m.name] = m;
            } else {
                methodsByName[m.name] = m;
            }
            if (m.isPlaced()) {
                placeCount++;
            }
            return m.number;
        }
    }

    private static final class Member {
        final Type owner;
        final int number;
        final int name;
        /** null: it is a METHOD. */
        final Type type;
        final boolean shared;
        /** Where its PLACE stands among those of its own CLASS. */
        final int placeNumber;
        final int body;
        final int a;
        /** The one PLACE of a SHARED FIELD. */
        long place;

        Member(Type owner, int name, Type type, boolean shared) {
            this.owner = owner;
            number = owner.memberCount;
            this.name = name;
            this.type = type;
            this.shared = shared;
            placeNumber = owner.placeCount;
            body = NO_BODY;
            a = 0;
            place = firstHeld();
        }

        Member(Type owner, int name, int body, int a) {
            this.owner = owner;
            number = owner.memberCount;
            this.name = name;
            type = null;
            shared = false;
            placeNumber = NONE;
            this.body = body;
            this.a = a;
        }

        int code() {
            return 100 * owner.number + number;
        }

        boolean isField() {
            return type != null;
        }

        /** Whether each THING of its CLASS has a PLACE for it. */
        boolean isPlaced() {
            return type != null && !shared;
        }

        long firstHeld() {
            return type == null || holdsValue(type.base, type.depth) ? 0 : NONE;
        }
    }

    /** The TYPES with their MEMBERS. */
    private static final class Types {
        private final Type[] all;
        /** By NAME: the FACES that lend a BODY for it. */
        private final TypeSet[] lenders;
        private final TypeSet candidates;
        int count;
        int classCount;
        int closedCount;

        Types() {
            all = new Type[MOST_TYPES];
            for (int lane = TRUTH; lane <= DOUBLE; lane++) {
                all[lane] = new Type(lane, LANE_SORT, null, null, false);
            }
            all[ANY] = new Type(ANY, CLASS_SORT, null, null, false);
            count = FIRST_MADE;
            lenders = new TypeSet[NAMES];
            for (int name = 0; name < NAMES; name++) {
                lenders[name] = new TypeSet();
            }
            candidates = new TypeSet();
        }

        Type at(int number) {
            return number < 0 || number >= count ? null : all[number];
        }

        Type classAt(int number) {
            Type t = at(number);
            return t == null || t.sort != CLASS_SORT ? null : t;
        }

        private Type faceAt(int number) {
            Type t = at(number);
            return t == null || t.sort != FACE_SORT ? null : t;
        }

        /** A CLASS that is not ANY. */
        private Type ownClassAt(int number) {
            return number == ANY ? null : classAt(number);
        }

        /** A TYPE that can have MEMBERS and FACES. */
        private Type memberedAt(int number) {
            Type face = faceAt(number);
            return face != null ? face : ownClassAt(number);
        }

        private int add(int sort, Type from, Type owner, boolean open) {
            if (count >= MOST_TYPES) {
                return FULL;
            }
            all[count] = new Type(count, sort, from, owner, open);
            count++;
            return count - 1;
        }

        int addClass(int above, boolean open) {
            Type upper = classAt(above);
            if (upper == null) {
                return BAD;
            }
            int made = add(CLASS_SORT, upper, null, open);
            if (made >= 0) {
                classCount++;
            }
            return made;
        }

        int addFace() {
            return add(FACE_SORT, null, null, false);
        }

        int addVariable(int cls, int bound) {
            Type owner = ownClassAt(cls);
            Type upper = at(bound);
            if (owner == null || upper == null || upper.sort == LANE_SORT) {
                return BAD;
            }
            return add(VARIABLE_SORT, upper, owner, false);
        }

        int rowOf(int type) {
            Type of = at(type);
            if (of == null) {
                return BAD;
            }
            if (of.row != NONE) {
                return of.row;
            }
            int made = add(ROW_SORT, of, of.owner, false);
            if (made >= 0) {
                of.row = made;
            }
            return made;
        }

        int tellFace(int type, int face) {
            Type to = memberedAt(type);
            Type told = faceAt(face);
            if (to == null || told == null) {
                return BAD;
            }
            if (to.facesTold.size() >= MOST_FACES) {
                return FULL;
            }
            if (to.closed || to.facesTold.has(face) || to == told || told.uppers.has(type)) {
                return NO;
            }
            to.facesTold.add(face);
            for (int n = ANY; n < count; n++) {
                Type t = at(n);
                if (t != null && (t == to || t.uppers.has(type))) {
                    t.uppers.add(face);
                    t.uppers.addAll(told.uppers);
                }
            }
            return to.facesTold.size();
        }

        /** Whether S IS T, both told as BASE and DEPTH: the component of a ROW may be no TYPE. */
        boolean isUnder(int base, int depth, int upperBase, int upperDepth) {
            if (depth != upperDepth) {
                return depth > upperDepth && upperBase == ANY;
            }
            if (base == upperBase) {
                return true;
            }
            Type s = at(base);
            if (s == null || base < ANY || upperBase < ANY) {
                return false;
            }
            return upperBase == ANY || s.uppers.has(upperBase);
        }

        boolean isThingUnder(Thing t, Type upper) {
            return isUnder(t.base, t.depth, upper.base, upper.depth);
        }

        int addField(int cls, int name, int type, boolean shared) {
            Type to = ownClassAt(cls);
            Type of = at(type);
            if (to == null || of == null || !isName(name)) {
                return BAD;
            }
            if (to.memberCount >= MOST_MEMBERS) {
                return FULL;
            }
            boolean foreign = of.owner != null && of.owner != to;
            if (to.closed || to.fieldNamed(name) != null || foreign) {
                return NO;
            }
            return to.keepMember(new Member(to, name, of, shared));
        }

        int addMethod(int type, int name, int body, int a) {
            Type to = memberedAt(type);
            if (to == null || !isName(name) || body < NO_BODY || body > ASKS_AND_ONE) {
                return BAD;
            }
            if ((body == ASKS || body == ASKS_AND_ONE) && !isName(a)) {
                return BAD;
            }
            if (to.memberCount >= MOST_MEMBERS) {
                return FULL;
            }
            if (to.closed || to.methodNamed(name) != null || !mayHaveBody(to, body, a)) {
                return NO;
            }
            if (to.sort == FACE_SORT && body != NO_BODY) {
                lenders[name].add(type);
            }
            return to.keepMember(new Member(to, name, body, a));
        }

        private boolean mayHaveBody(Type to, int body, int a) {
            if (to.sort == FACE_SORT) {
                return body != TELLS_FIELD && body != ABOVE;
            }
            if (body == NO_BODY) {
                return to.open;
            }
            Member told = to.memberAt(a);
            return body != TELLS_FIELD || told != null && told.isField();
        }

        /** The code of the METHOD that is FOUND for a CLASS; LACKING, TWO. */
        int bodyFor(Type cls, int name) {
            for (Type c = cls; c != null; c = c.from) {
                Member m = c.methodNamed(name);
                if (m != null) {
                    return m.body == NO_BODY ? LACKING : m.code();
                }
            }
            return lentBodyFor(cls, name);
        }

        private int lentBodyFor(Type cls, int name) {
            candidates.becomeBoth(cls.uppers, lenders[name]);
            // What a lender overrules is gone for good: the FACES OF a FACE hold those of each of
            // them, so it matters not in which order the lenders are come by.
            for (int f = FIRST_MADE; f < count && candidates.size() > 1; f++) {
                if (candidates.has(f)) {
                    candidates.removeAll(all[f].uppers);
                }
            }
            if (candidates.size() > 1) {
                return TWO;
            }
            Type lender = at(candidates.last());
            Member m = lender == null ? null : lender.methodNamed(name);
            return m == null ? LACKING : m.code();
        }

        /** The FIELD that is SEEN from a CLASS, or null. */
        Member fieldFrom(Type cls, int name) {
            for (Type c = cls; c != null; c = c.from) {
                Member m = c.fieldNamed(name);
                if (m != null) {
                    return m;
                }
            }
            return null;
        }

        boolean anyMethodFor(Type cls, int name) {
            for (int n = FIRST_MADE; n < count; n++) {
                if (cls.uppers.has(n) && all[n].methodNamed(name) != null) {
                    return true;
                }
            }
            return false;
        }

        Member memberOf(int code) {
            Type t = at(code / 100);
            return t == null ? null : t.memberAt(code % 100);
        }

        void closeFor(Type cls) {
            for (int n = ANY; n < count; n++) {
                Type t = all[n];
                if (cls.uppers.has(n) && !t.closed) {
                    t.closed = true;
                    closedCount++;
                }
            }
        }

        long sharedMixedInto(long h) {
            long mix = h;
            for (int n = FIRST_MADE; n < count; n++) {
                Type t = all[n];
                for (int k = 0; k < t.memberCount; k++) {
                    Member m = t.members[k];
                    if (m.shared) {
                        mix = 31 * mix + m.place;
                    }
                }
            }
            return mix;
        }
    }

    private static final class Thing {
        /** null: it is a ROW. */
        final Type cls;
        /** ERASED: a CLASS and 0, or of a ROW one DEPTH more than its component. */
        final int base;
        final int depth;
        /** The items of a ROW; else the PLACES, those of its own CLASS first. */
        final long[] items;

        Thing(Type cls, int base, int depth, int n) {
            this.cls = cls;
            this.base = base;
            this.depth = depth;
            items = new long[Math.max(n, 0)];
        }

        /** Where the PLACE of a FIELD stands; NONE, if it has none. */
        int placeOf(Member field) {
            int start = 0;
            for (Type c = cls; c != null; c = c.from) {
                if (c == field.owner) {
                    int place = start + field.placeNumber;
                    return place < items.length ? place : NONE;
                }
                start += c.placeCount;
            }
            return NONE;
        }
    }

    private static final class Things {
        private final Types types;
        private final Thing[] all;
        int count;

        Things(Types types) {
            this.types = types;
            all = new Thing[MOST_THINGS];
        }

        Thing at(int number) {
            return number < 0 || number >= count ? null : all[number];
        }

        private int keep(Thing t) {
            if (count >= MOST_THINGS) {
                return FULL;
            }
            all[count] = t;
            count++;
            return count - 1;
        }

        int addOfClass(int cls) {
            Type own = types.classAt(cls);
            if (own == null) {
                return BAD;
            }
            if (count >= MOST_THINGS) {
                return FULL;
            }
            if (own.open) {
                return NO;
            }
            int places = 0;
            for (Type c = own; c != null; c = c.from) {
                places += c.placeCount;
            }
            Thing t = new Thing(own, cls, 0, places);
            int placed = 0;
            for (Type c = own; c != null; c = c.from) {
                placeFields(t, c, placed);
                placed += c.placeCount;
            }
            types.closeFor(own);
            return keep(t);
        }

        private static void placeFields(Thing t, Type c, int start) {
            for (int k = 0; k < c.memberCount; k++) {
                Member m = c.members[k];
                int place = start + m.placeNumber;
                if (m.isPlaced() && place >= 0 && place < t.items.length) {
                    t.items[place] = m.firstHeld();
                }
            }
        }

        int addRow(int type, int n) {
            Type of = types.at(type);
            if (of == null || n > MOST_ITEMS) {
                return BAD;
            }
            if (count >= MOST_THINGS) {
                return FULL;
            }
            if (n < 0) {
                return SIZE;
            }
            Thing t = new Thing(null, of.base, of.depth + 1, n);
            if (!holdsValue(of.base, of.depth)) {
                for (int i = 0; i < t.items.length; i++) {
                    t.items[i] = NONE;
                }
            }
            return keep(t);
        }

        /** Whether a number can be PUT where that ERASED TYPE is held; else STORE. */
        boolean mayHold(int base, int depth, long v) {
            if (holdsValue(base, depth) || v == NONE) {
                return true;
            }
            Thing t = v < 0 || v >= count ? null : at((int) v);
            return t != null && types.isUnder(t.base, t.depth, base, depth);
        }

        long mixedInto(long h) {
            long mix = h;
            for (int n = 0; n < count; n++) {
                Thing t = all[n];
                mix = 31 * mix + t.base;
                mix = 31 * mix + t.depth;
                mix = mixed(mix, t.items);
            }
            return mix;
        }
    }

    private static final class Handle {
        final Type cls;
        /** null: it is of METHODS. */
        final Member field;
        final int name;

        Handle(Type cls, Member field, int name) {
            this.cls = cls;
            this.field = field;
            this.name = name;
        }
    }

    /** Keeps the HANDLES and READS by them, with what the latest READING told and THE TRACE. */
    private static final class Reader {
        private final Types types;
        private final Things things;
        private final Handle[] handles;
        final int[] traced;
        int handleCount;
        int traceCount;
        int laneRead;
        long bitsRead;

        Reader(Types types, Things things) {
            this.types = types;
            this.things = things;
            handles = new Handle[MOST_HANDLES];
            traced = new int[MOST_TRACE];
        }

        Handle handleAt(int number) {
            return number < 0 || number >= handleCount ? null : handles[number];
        }

        int addHandle(int cls, int name, boolean ofMethods) {
            Type c = types.classAt(cls);
            if (c == null || !isName(name)) {
                return BAD;
            }
            if (handleCount >= MOST_HANDLES) {
                return FULL;
            }
            Member field = ofMethods ? null : types.fieldFrom(c, name);
            if (ofMethods ? !types.anyMethodFor(c, name) : field == null) {
                return LACKING;
            }
            handles[handleCount] = new Handle(c, field, name);
            handleCount++;
            return handleCount - 1;
        }

        private int whyNotOf(Handle h, Thing t) {
            if (t == null) {
                return NULL;
            }
            return types.isThingUnder(t, h.cls) ? 0 : CAST;
        }

        /** 0 with what was READ in laneRead and bitsRead; or a FINDING. */
        int readBy(Handle h, Thing t) {
            if (h.field != null && h.field.shared) {
                return readField(h.field, t);
            }
            int why = whyNotOf(h, t);
            if (why != 0) {
                return why;
            }
            return h.field != null ? readField(h.field, t) : readBody(h.name, t);
        }

        private int readField(Member field, Thing t) {
            Type of = field.type;
            if (of == null) {
                return LACKING;
            }
            laneRead = holdsValue(of.base, of.depth) ? of.base : NO_LANE;
            if (field.shared) {
                bitsRead = field.place;
                return 0;
            }
            int place = t == null ? NONE : t.placeOf(field);
            if (place == NONE) {
                return LACKING;
            }
            bitsRead = t.items[place];
            return 0;
        }

        /** A BODY begins at most one other, so what is open is a count and no recursion. */
        private int readBody(int name, Thing t) {
            Type from = t.cls;
            int asked = name;
            int ones = 0;
            for (int open = 0; open <= MOST_BODIES && from != null; open++) {
                int code = types.bodyFor(from, asked);
                if (code < 0) {
                    return code;
                }
                if (open == MOST_BODIES) {
                    return DEEP;
                }
                keepTrace(code);
                Member m = types.memberOf(code);
                if (m == null) {
                    return LACKING;
                }
                if (m.body == TELLS_FIELD || m.body == TELLS_INT) {
                    int why = readLast(m, t);
                    return why != 0 ? why : addOnes(ones);
                }
                if (m.body == ABOVE) {
                    from = m.owner.from;
                    asked = m.name;
                } else {
                    from = t.cls;
                    asked = m.a;
                    ones += m.body == ASKS_AND_ONE ? 1 : 0;
                }
            }
            return LACKING;
        }

        private int readLast(Member m, Thing t) {
            if (m.body == TELLS_INT) {
                laneRead = INT;
                bitsRead = m.a;
                return 0;
            }
            Member field = m.owner.memberAt(m.a);
            return field == null ? LACKING : readField(field, t);
        }

        private int addOnes(int ones) {
            if (ones == 0) {
                return 0;
            }
            if (laneRead < BYTE || laneRead > LONG) {
                return KIND;
            }
            laneRead = LONG;
            bitsRead += ones;
            return 0;
        }

        private void keepTrace(int code) {
            if (traceCount < MOST_TRACE) {
                traced[traceCount] = code;
                traceCount++;
            }
        }

        int writeField(Handle h, Thing t, long v) {
            Member field = h.field;
            if (field == null || field.type == null) {
                return NO;
            }
            int why = field.shared ? 0 : whyNotOf(h, t);
            if (why != 0) {
                return why;
            }
            Type of = field.type;
            if (!things.mayHold(of.base, of.depth, v)) {
                return STORE;
            }
            long put = held(of.base, of.depth, v);
            if (field.shared) {
                field.place = put;
                return 1;
            }
            int place = t == null ? NONE : t.placeOf(field);
            if (place == NONE) {
                return LACKING;
            }
            t.items[place] = put;
            return 1;
        }
    }

    private static final class Column {
        final int lane;
        final long[] cells;

        Column(int lane, int n) {
            this.lane = lane;
            cells = new long[Math.max(n, 0)];
        }

        long sumAsLong() {
            long together = 0;
            for (int i = 0; i < cells.length; i++) {
                together += cells[i];
            }
            return together;
        }

        long sumAsDouble() {
            long together = 0;
            for (int i = 0; i < cells.length; i++) {
                long next = Lanes.widened(cells[i], lane, DOUBLE);
                if (Lanes.hasEnd(next)) {
                    together = Lanes.added(together, next);
                }
            }
            return together;
        }
    }

    /** The TESTS of a QUERY, row by row. */
    private static final class Query {
        final Handle[] handles;
        final int[] ops;
        final long[] numbers;
        final boolean[] ors;
        int count;

        Query() {
            handles = new Handle[MOST_TESTS];
            ops = new int[MOST_TESTS];
            numbers = new long[MOST_TESTS];
            ors = new boolean[MOST_TESTS];
        }

        int addTest(Handle h, int op, long number, boolean or) {
            if (count >= MOST_TESTS) {
                return FULL;
            }
            handles[count] = h;
            ops[count] = op;
            numbers[count] = number;
            ors[count] = or;
            count++;
            return count;
        }
    }

    /**
     * VALUES by their BITS. The language has no way from a float or double to its bits, so theirs
     * are reckoned with as longs: sign, exponent, fraction.
     */
    private static final class Lanes {
        /** Bit t of entry f: a VALUE of LANE f WIDENS to LANE t. */
        private static final int[] WIDER = {
            0b00000001, 0b11110110, 0b11110100, 0b11111000,
            0b11110000, 0b11100000, 0b11000000, 0b10000000};
        private static final long FLOAT_SIGN = 0xffffffff80000000L;
        private static final long FLOAT_ENDLESS = 0x7f800000L, FLOAT_NO_NUMBER = 0x7fc00000L;
        private static final int FLOAT_FRACTION = 23, FLOAT_BIAS = 127;
        private static final long SIGN = Long.MIN_VALUE;
        private static final long ENDLESS = 0x7ff0000000000000L, NO_NUMBER = 0x7ff8000000000000L;
        private static final int FRACTION = 52, BIAS = 1023;
        private static final long HIDDEN = 1L << FRACTION;

        static boolean widens(int from, int to) {
            return isLane(from) && isLane(to) && ((WIDER[from] >>> to) & 1) != 0;
        }

        static long fit(int lane, long bits) {
            switch (lane) {
                case TRUTH: return bits != 0 ? 1 : 0;
                case BYTE: return (byte) bits;
                case SHORT: return (short) bits;
                case CHAR: return (char) bits;
                case INT: return (int) bits;
                case FLOAT:
                    return (bits & 0x7fffffffL) > FLOAT_ENDLESS ? FLOAT_NO_NUMBER : (int) bits;
                case DOUBLE: return isNoNumber(bits) ? NO_NUMBER : bits;
                default: return bits;
            }
        }

        /** Only of what widens(). */
        static long widened(long bits, int from, int to) {
            if (from == to || to < FLOAT) {
                return bits;
            }
            if (from == FLOAT) {
                return floatAsDouble(bits);
            }
            return to == FLOAT ? longAsFloat(bits) : longAsDouble(bits);
        }

        private static long longAsFloat(long v) {
            long size = rounded(v, FLOAT_FRACTION, FLOAT_BIAS);
            return v < 0 ? FLOAT_SIGN | size : size;
        }

        private static long longAsDouble(long v) {
            long size = rounded(v, FRACTION, BIAS);
            return v < 0 ? SIGN | size : size;
        }

        /** Exponent and fraction of v without its sign, to the nearest, of two the even one. */
        private static long rounded(long v, int fraction, int bias) {
            long size = v < 0 ? -v : v;
            int top = topBit(size);
            if (top < 0) {
                return 0;
            }
            long kept = size << Math.max(fraction - top, 0);
            if (top > fraction) {
                int lost = top - fraction;
                kept = size >>> lost;
                long rest = size & ((1L << lost) - 1);
                long half = 1L << (lost - 1);
                if (rest > half || rest == half && (kept & 1) != 0) {
                    kept++;
                }
            }
            // The highest bit of what is kept counts one exponent; a carry counts one more.
            return ((long) (top + bias - 1) << fraction) + kept;
        }

        private static long floatAsDouble(long bits) {
            long sign = bits < 0 ? SIGN : 0;
            long size = bits & 0x7fffffffL;
            if (size > FLOAT_ENDLESS) {
                return NO_NUMBER;
            }
            if (size == FLOAT_ENDLESS) {
                return sign | ENDLESS;
            }
            int wider = FRACTION - FLOAT_FRACTION;
            if (size >>> FLOAT_FRACTION != 0) {
                return sign | ((size << wider) + ((long) (BIAS - FLOAT_BIAS) << FRACTION));
            }
            int top = topBit(size);
            if (top < 0) {
                return sign;
            }
            // A float below the least with a hidden bit has one as a double.
            long exponent = top + BIAS - FLOAT_BIAS + 1 - FLOAT_FRACTION;
            return sign | (((exponent - 1) << FRACTION) + (size << (FRACTION - top)));
        }

        private static boolean isNoNumber(long bits) {
            return (bits & Long.MAX_VALUE) > ENDLESS;
        }

        /** Whether BITS of a double are of a number that is not endless. */
        static boolean hasEnd(long bits) {
            return (bits & Long.MAX_VALUE) < ENDLESS;
        }

        static boolean compares(long bits, int lane, int op, long number) {
            if (lane < FLOAT) {
                return isSo(Long.compare(bits, number), op);
            }
            long value = widened(bits, lane, DOUBLE);
            if (isNoNumber(value)) {
                return op == 3;
            }
            return isSo(Long.compare(ordered(value), ordered(longAsDouble(number))), op);
        }

        /** BITS of a double as a long in the same order, both zeros the same. */
        private static long ordered(long bits) {
            return bits < 0 ? SIGN - bits : bits;
        }

        private static boolean isSo(int order, int op) {
            switch (op) {
                case 0: return order < 0;
                case 1: return order <= 0;
                case 2: return order == 0;
                case 3: return order != 0;
                case 4: return order >= 0;
                default: return order > 0;
            }
        }

        /** BITS of the sum of two doubles, of which the second has an end. */
        static long added(long one, long other) {
            if (!hasEnd(one)) {
                return one;
            }
            boolean oneIsLarger = (one & Long.MAX_VALUE) >= (other & Long.MAX_VALUE);
            long large = oneIsLarger ? one : other;
            long small = oneIsLarger ? other : one;
            // Three bits more: two that rounding looks at, and one for all that was shifted out.
            long much = significand(large) << 3;
            long less = shiftedOut(significand(small) << 3, exponent(large) - exponent(small));
            boolean alike = (large ^ small) >= 0;
            long both = alike ? much + less : much - less;
            if (both == 0) {
                return alike ? large & SIGN : 0;
            }
            return (large & SIGN) | packed(both, exponent(large));
        }

        private static int exponent(long bits) {
            int told = (int) ((bits & Long.MAX_VALUE) >>> FRACTION);
            return Math.max(told, 1);
        }

        private static long significand(long bits) {
            long told = bits & (HIDDEN - 1);
            return (bits & Long.MAX_VALUE) >= HIDDEN ? told | HIDDEN : told;
        }

        private static long shiftedOut(long size, int by) {
            if (by <= 0) {
                return size;
            }
            if (by > 60) {
                return size != 0 ? 1 : 0;
            }
            long rest = size & ((1L << by) - 1);
            return (size >>> by) | (rest != 0 ? 1 : 0);
        }

        /** Exponent and fraction of a size with three bits more than it can keep. */
        private static long packed(long size, int exponent) {
            int excess = topBit(size) - FRACTION - 3;
            // Below the least exponent the hidden bit is let go instead.
            int down = Math.max(excess, 1 - exponent);
            long exact = down > 0 ? shiftedOut(size, down) : size << -down;
            long kept = exact >>> 3;
            long rest = exact & 7;
            if (rest > 4 || rest == 4 && (kept & 1) != 0) {
                kept++;
            }
            long bits = ((long) (exponent + down - 1) << FRACTION) + kept;
            return Math.min(bits, ENDLESS);
        }
    }
}
