import java.util.ArrayList;
import java.util.HashMap;
import java.util.List;
import java.util.Map;
import java.util.Random;
import java.util.TreeMap;

/** Runs of 512 calls that chance tells, wild numbers among them, held against the Model. */
public final class ModelTest {
    private static final String[] CALLS = {
        "cls", "face", "under", "variable", "row", "erased", "is", "field", "method", "found", "seen",
        "thing", "things", "kind", "isA", "read", "write", "readAs", "writeAs", "handle", "get", "lane",
        "getAs", "set", "column", "fill", "filled", "cell", "sum", "query", "test", "run", "hit",
        "failed", "total", "trace", "told", "status", "digest"};
    /** How often a call is made: while the run begins, in its midst, later. */
    private static final int[][] WEIGHTS = {
        {9, 6, 12, 4, 4, 1, 2, 14, 18, 3, 2, 0, 1, 1, 1, 1, 1, 1, 1, 2, 1, 1,
            1, 1, 1, 1, 1, 1, 1, 1, 1, 1, 1, 1, 1, 1, 1, 2, 1},
        {2, 1, 2, 1, 2, 1, 3, 3, 4, 3, 2, 8, 6, 2, 3, 3, 6, 3, 4, 25, 6, 1,
            3, 8, 3, 3, 1, 1, 1, 2, 4, 3, 1, 1, 1, 1, 1, 2, 1},
        {1, 1, 1, 1, 1, 1, 1, 1, 1, 2, 1, 1, 1, 1, 2, 2, 4, 3, 4, 2, 9, 2,
            7, 14, 3, 12, 2, 3, 5, 1, 6, 14, 3, 3, 7, 5, 3, 4, 2}};
    private static final long[] EDGES = {
        0, 1, -1, 2, Long.MIN_VALUE, Long.MAX_VALUE, Integer.MIN_VALUE, Integer.MAX_VALUE, 127, 128,
        255, 256, 32767, 32768, 65535, 65536, 0x7f800000L, 0xff800000L, 0x7fc00000L, 0x7f800001L,
        0x7fffffffL, 0x80000000L, 0x00000001L, 0x007fffffL, 0x3f800000L, 0x7ff0000000000000L,
        0xfff0000000000000L, 0x7ff8000000000000L, 0x7ff0000000000001L, 0xffffffffffffffffL,
        0x8000000000000000L, 0x000fffffffffffffL, 0x0010000000000000L, 0x7fefffffffffffffL,
        0x3ff0000000000000L, 0xbff0000000000000L, 0x4340000000000000L, 9007199254740993L, 16777217L,
        1L << 62, (1L << 62) + (1L << 38), (1L << 62) + (1L << 38) + 1, (1L << 62) + (3L << 38)};

    private final Random chance;
    private final int names;
    private final boolean dense;
    private final int wild;
    /** Each run favours calls and TYPES of its own, so that limits and deep nests are come to. */
    private final int[] favour = new int[CALLS.length];
    private final int lastType;
    /** So many FACES are made first in some runs, lest all that matters have low numbers. */
    private final int filler;
    private final int firstPart;
    private final int secondPart;
    private final int thirdPart;
    private final Model model = new Model();
    private final QueryHandles x = new QueryHandles();

    private ModelTest(long seed) {
        chance = new Random(seed);
        dense = seed % 2 == 0;
        names = dense ? 3 + chance.nextInt(4) : chance.nextBoolean() ? 1 + chance.nextInt(4) : 7 + chance.nextInt(4);
        wild = chance.nextInt(4) == 0 ? 8 : 60;
        filler = seed % 4 == 2 ? 40 + chance.nextInt(44) : 0;
        int reach = dense ? 2 : chance.nextInt(3);
        lastType = filler + (reach == 0 ? 100 : reach == 1 ? 11 + chance.nextInt(3) : 14 + chance.nextInt(16));
        firstPart = 2 + chance.nextInt(16);
        secondPart = 20 + chance.nextInt(200);
        thirdPart = secondPart + chance.nextInt(200);
        for (int i = 0; i < favour.length; i++) {
            int how = chance.nextInt(12);
            favour[i] = how == 0 ? 0 : how < 6 ? 2 : how < 10 ? 5 : 30;
        }
    }

    private int below(int n) {
        return n <= 0 ? 0 : chance.nextInt(n);
    }

    private long edge() {
        int how = below(4);
        return how == 0 ? chance.nextLong() : how == 1 ? below(80) - 10
            : how == 2 ? chance.nextLong() >> below(64) : EDGES[below(EDGES.length)];
    }

    private long some(long usual) {
        return below(wild) != 0 ? usual : below(3) == 0 ? (int) edge() : below(130) - 15;
    }

    private int typeBelow() {
        int size = model.types.size();
        return below(3) == 0 ? below(size) : filler + below(Math.min(lastType, size) - filler);
    }

    /** Whether a run that has TYPES of its own favours this one. */
    private boolean isNear(int type) {
        boolean isFiller = type > 8 && type < 9 + filler;
        return isFiller ? below(80) == 0 : type < lastType || below(4) == 0;
    }

    private long type() {
        return some(typeBelow());
    }

    private long typeOf(String... sorts) {
        List<Integer> fine = new ArrayList<>();
        for (Model.T t : model.types) {
            if (isNear(t.number) && List.of(sorts).contains(t.sort) && (t.number != 8 || below(6) == 0)) {
                fine.add(t.number);
            }
        }
        return fine.isEmpty() ? type() : some(fine.get(below(fine.size())));
    }

    private long thing() {
        return some(below(model.things.size() + 1) - (below(8) == 0 ? 1 : 0));
    }

    /** Most often a THING that the HANDLE can be READ of. */
    private long thingFor(long handle) {
        if (handle < 0 || handle >= model.handles.size()) {
            return thing();
        }
        long cls = model.handles.get((int) handle).cls().number;
        for (int tries = 0; tries < 10; tries++) {
            long t = thing();
            if (model.peek("isA", t, cls) == 1) {
                return t;
            }
        }
        return thing();
    }

    private long[] handleAndThing(long... more) {
        long[] p = new long[2 + more.length];
        p[0] = handleOr(model.handles.size());
        p[1] = thingFor(p[0]);
        System.arraycopy(more, 0, p, 2, more.length);
        return p;
    }

    private long item() {
        return some(below(5) - (below(15) == 0 ? 1 : 0));
    }

    private long handleOr(int n) {
        return some(below(n));
    }

    private long name() {
        return some(below(names));
    }

    private long truth() {
        return below(2);
    }

    private long put() {
        return below(3) == 0 ? edge() : below(model.things.size() + 2) - 1;
    }

    private long[] methodNumbers() {
        long type = typeOf("class", "face");
        long body = some(below(6));
        long a = below(5) == 0 ? (int) edge() : below(4) == 0 ? below(12) - 1 : below(names);
        if (body == 1 && type > 8 && type < model.types.size()) {
            a = below(model.types.get((int) type).members.size() + 1);
        }
        return new long[] {type, name(), body, a};
    }

    /** Most often of a FIELD that is SEEN, or of a NAME for which a BODY is FOUND, or TWO. */
    private long[] handleNumbers() {
        long[] p = new long[3];
        for (int tries = 0; tries < 5; tries++) {
            p[0] = typeOf("class");
            p[1] = name();
            p[2] = truth();
            long answer = model.peek(p[2] != 0 ? "found" : "seen", p[0], p[1]);
            if (answer > 0 || answer == Model.TWO) {
                return p;
            }
        }
        return p;
    }

    private long[] numbers(String call) {
        int handles = model.handles.size();
        int queries = model.queries.size();
        switch (call) {
            case "cls": return new long[] {typeOf("class"), below(4) == 0 ? 1 : 0};
            case "under": return new long[] {typeOf("class", "face"), typeOf("face")};
            case "variable": return new long[] {typeOf("class"), type()};
            case "row": return new long[] {type()};
            case "erased": return new long[] {type(), some(below(2))};
            case "is": return new long[] {type(), type()};
            case "field": return new long[] {typeOf("class"), name(),
                below(2) == 0 ? some(below(8)) : type(), below(4) == 0 ? 1 : 0};
            case "method": return methodNumbers();
            case "found": case "seen": return new long[] {typeOf("class"), name()};
            case "thing": return new long[] {typeOf("class")};
            case "things": return new long[] {below(2) == 0 ? some(below(8)) : type(),
                below(8) == 0 ? below(20) - 4 : some(below(5))};
            case "kind": return new long[] {thing(), some(below(3))};
            case "isA": return new long[] {thing(), type()};
            case "read": return new long[] {thing(), item()};
            case "write": return new long[] {thing(), item(), put()};
            case "readAs": return new long[] {thing(), item(), some(below(8))};
            case "writeAs": return new long[] {thing(), item(), some(below(8)), edge()};
            default: return laterNumbers(call, handles, queries);
        }
    }

    private long[] laterNumbers(String call, int handles, int queries) {
        switch (call) {
            case "handle": return handleNumbers();
            case "get": return handleAndThing();
            case "getAs": return handleAndThing(some(below(8)));
            case "set": return handleAndThing(put());
            case "column": return new long[] {some(below(6)), some(below(8)),
                below(3) == 0 ? below(70) - 5 : below(2) == 0 ? 60 : below(6)};
            case "fill": return new long[] {some(below(6)), handleOr(handles)};
            case "cell": return new long[] {some(below(6)), item()};
            case "sum": return new long[] {some(below(6))};
            case "test": return new long[] {handleOr(queries), handleOr(handles), some(below(6)),
                below(2) == 0 ? below(20) - 5 : edge(), truth()};
            case "run": return new long[] {handleOr(queries),
                some(below(3) == 0 ? below(60) : below(4)), some(below(2) == 0 ? 60 : below(61))};
            case "hit": return new long[] {some(below(4))};
            case "total": return new long[] {handleOr(handles)};
            case "trace": return new long[] {below(6) == 0 ? below(64) - 2 : some(below(6))};
            case "told": return new long[] {some(below(8))};
            default: return new long[0];
        }
    }

    private String pick(int[] weights) {
        int all = 0;
        for (int i = 0; i < weights.length; i++) {
            all += weights[i] * favour[i];
        }
        int at = below(all);
        for (int i = 0; i < weights.length; i++) {
            at -= weights[i] * favour[i];
            if (at < 0) {
                return CALLS[i];
            }
        }
        return CALLS[0];
    }

    private String pickedBy(int n) {
        int part = n < secondPart ? 0 : n < thirdPart ? 1 : 2;
        return n < firstPart ? CALLS[below(5) / 3] : pick(WEIGHTS[part]);
    }

    /** A few TYPES with many MEMBERS first, then all that READS them. */
    private String planned(int n) {
        return n < 9 ? CALLS[below(5) / 3] : n < 18 ? "under" : n < 70 ? below(3) == 0 ? "field" : "method"
            : n < 86 ? "thing" : n < 90 ? "things" : n < 125 ? "handle" : n < 135 ? "query"
            : n < 170 ? "test" : n < 215 ? "set" : pick(WEIGHTS[2]);
    }

    private boolean run(long seed, Map<String, Integer> seen) {
        StringBuilder story = new StringBuilder();
        for (int n = 0; n < 512; n++) {
            String call = n < filler ? "face" : dense ? planned(n - filler) : pickedBy(n);
            long[] p = numbers(call);
            long want = model.call(call, p);
            long got = Calls.make(x, call, p);
            story.append(Calls.text(call, p)).append(" = ").append(want).append('\n');
            boolean untold = Model.UNTOLD.contains(call);
            String kind = call + " " + (untold || model.why == 0 ? "told" : String.valueOf(model.why));
            seen.merge(kind, 1, Integer::sum);
            if (got != want || x.status() != model.why) {
                System.out.println("seed " + seed + "\n" + story);
                Check.due(Calls.text(call, p), got, want);
                Check.due("status()", x.status(), model.why);
                return false;
            }
        }
        Check.due("digest of run " + seed, x.digest(), model.call("digest", new long[0]));
        return true;
    }

    /** Answers that the runs must have come to, lest chance leave a promise untried; all refusals are here. */
    static final String[] MUST = {
        "cls -1", "cls -2", "cls told", "face -2", "under -1", "under -2", "under -3", "under told",
        "variable -1", "variable -2", "row -1", "row -2", "erased -1", "is -1", "field -1", "field -2",
        "field -3", "method -1", "method -2", "method -3", "found -1", "found -17", "found -19",
        "seen -1", "seen -17", "thing -1", "thing -2", "thing -3", "things -1", "things -2", "things -15",
        "kind -1", "kind -11", "isA -1", "isA -11", "read -1", "read -11", "read -12", "read -13",
        "write -1", "write -11", "write -12", "write -13", "write -14", "readAs -1", "readAs -11",
        "readAs -12", "readAs -16", "writeAs -1", "writeAs -11", "writeAs -12", "writeAs -16",
        "handle -1", "handle -2", "handle -17", "get -1", "get -11", "get -13", "get -17", "get -18",
        "get -19", "get -16", "getAs -1", "getAs -11", "getAs -13", "getAs -16", "getAs -17", "getAs -18",
        "getAs -19", "set -1", "set -3", "set -11", "set -13", "set -14", "column -1", "column -15",
        "fill -1", "fill -11", "fill -12", "fill -16", "fill -17", "fill -18", "fill -19", "cell -1",
        "cell -11", "cell -12", "sum -1", "sum -11", "query -2", "test -1", "test -2", "run -1", "run -3",
        "run -13", "run -16", "run -17", "run -18", "run -19", "total -1", "total -13", "total -16",
        "total -17", "total -18", "total -19", "fill told", "run told", "total told", "sum told"};

    public static void main(String[] args) {
        long first = args.length > 0 ? Long.parseLong(args[0]) : 1;
        int runs = args.length > 1 ? Integer.parseInt(args[1]) : 6000;
        Map<String, Integer> seen = new HashMap<>();
        Check.due("calls of the face", Calls.count(), CALLS.length);
        for (long seed = first; seed < first + runs && Check.allAsDue(); seed++) {
            new ModelTest(seed).run(seed, seen);
        }
        for (String kind : MUST) {
            Check.that("the runs came to: " + kind, seen.containsKey(kind));
        }
        for (String kind : seen.keySet()) {
            Check.that("the runs may come to: " + kind, kind.endsWith(" told") || List.of(MUST).contains(kind));
        }
        if (args.length > 0) {
            System.out.println(new TreeMap<>(seen));
        }
        Check.end("ModelTest");
    }
}
