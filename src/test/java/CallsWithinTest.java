import java.io.IOException;
import java.util.HashMap;
import java.util.HashSet;
import java.util.Map;
import java.util.Set;
import java.util.TreeMap;
import java.util.TreeSet;

/** Rules 2, 3, 4, 6, 8 and 11 of LANGUAGE.md, looked up in the class as the machine has it. */
public final class CallsWithinTest {
    private static final Set<String> LIBRARY = Set.of("java.lang.Object.<init>()V", "java.lang.Long.bitCount(J)I",
        "java.lang.Long.compare(JJ)I", "java.lang.Math.max(II)I", "java.lang.Math.min(II)I", "java.lang.Math.min(JJ)J");
    /** Lambdas and joined texts; throwing; casts to classes; tests of classes; locks. */
    private static final Set<Integer> NEVER = Set.of(0xba, 0xbf, 0xc0, 0xc1, 0xc2, 0xc3);
    /** What reckons with or casts from and to floats and doubles. */
    private static final Set<Integer> OF_FLOATS = Set.of(0x62, 0x63, 0x66, 0x67, 0x6a, 0x6b, 0x6e, 0x6f, 0x72, 0x73,
        0x76, 0x77, 0x86, 0x87, 0x89, 0x8a, 0x8b, 0x8c, 0x8d, 0x8e, 0x8f, 0x90, 0x95, 0x96, 0x97, 0x98);

    private final Map<String, Set<String>> calls = new TreeMap<>();
    private final Map<String, Integer> depths = new HashMap<>();
    private final Set<String> open = new HashSet<>();

    private void look(Class<?> c) throws IOException {
        ClassFile file = new ClassFile(c);
        Check.that("methods of " + c, file.methods.size() > 0);
        for (ClassFile.Code code : file.methods) {
            Check.due("rule 6: catches in " + code.name(), code.catches(), 0);
            for (int instruction : code.instructions()) {
                Check.that("instruction " + instruction + " in " + code.name(), !NEVER.contains(instruction)
                    && !OF_FLOATS.contains(instruction));
            }
            Set<String> own = calls.computeIfAbsent(code.name(), n -> new TreeSet<>());
            for (String called : code.calls()) {
                if (called.startsWith("QueryHandles")) {
                    own.add(called);
                } else {
                    Check.that("rule 4: " + called + " in " + code.name(), LIBRARY.contains(called));
                }
            }
        }
    }

    /** How many methods are open at once, this one the first. */
    private int depthOf(String method) {
        Integer known = depths.get(method);
        if (known != null) {
            return known;
        }
        Check.that("there is " + method, calls.containsKey(method));
        open.add(method);
        int most = 0;
        for (String next : calls.getOrDefault(method, Set.of())) {
            boolean again = open.contains(next);
            Check.that("rule 8: no recursion by " + method + " and " + next, !again);
            most = Math.max(most, again ? 0 : depthOf(next));
        }
        open.remove(method);
        depths.put(method, most + 1);
        return most + 1;
    }

    public static void main(String[] args) throws IOException {
        CallsWithinTest test = new CallsWithinTest();
        test.look(QueryHandles.class);
        for (Class<?> c : QueryHandles.class.getDeclaredClasses()) {
            test.look(c);
        }
        int deepest = 0;
        for (String method : test.calls.keySet()) {
            int depth = test.depthOf(method);
            Check.that("rule 11: " + method + " goes " + depth + " deep", depth <= 8);
            deepest = Math.max(deepest, depth);
        }
        Check.that("run() and what it calls are looked at: " + deepest, deepest >= 6);
        Check.that("all calls are looked at", test.calls.size() > 100);
        Check.end("CallsWithinTest");
    }
}
