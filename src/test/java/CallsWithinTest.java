import java.io.PrintWriter;
import java.io.StringWriter;
import java.net.URISyntaxException;
import java.nio.file.Path;
import java.util.ArrayList;
import java.util.HashMap;
import java.util.HashSet;
import java.util.List;
import java.util.Map;
import java.util.Set;
import java.util.TreeMap;
import java.util.TreeSet;
import java.util.regex.Matcher;
import java.util.regex.Pattern;
import java.util.spi.ToolProvider;

/** Rules 4, 8 and 11 of LANGUAGE.md, looked up in the machine's code: which methods call which. */
public final class CallsWithinTest {
    private static final Pattern CALL =
        Pattern.compile("invoke\\w+ .*// (?:Interface)?Method (?:([\\w/$]+)\\.)?\"?(<?\\w+>?)\"?:(\\S+)");
    private static final Pattern METHOD = Pattern.compile("(?m)^  (\\S.*\\)|static \\{\\});\n    descriptor: (\\S+)$");

    private final Map<String, Set<String>> calls = new TreeMap<>();
    private final Set<String> library = new TreeSet<>();
    private final Map<String, Integer> depths = new HashMap<>();
    private final Set<String> open = new HashSet<>();

    private static String shown(Class<?> c) throws URISyntaxException {
        Path at = Path.of(QueryHandles.class.getProtectionDomain().getCodeSource().getLocation().toURI());
        StringWriter out = new StringWriter();
        PrintWriter writer = new PrintWriter(out);
        ToolProvider javap = ToolProvider.findFirst("javap").orElseThrow();
        int code = javap.run(writer, writer, "-p", "-c", "-s", at.resolve(c.getName() + ".class").toString());
        Check.due("javap of " + c, code, 0);
        return out.toString();
    }

    private void look(Class<?> c) throws URISyntaxException {
        String text = shown(c);
        List<String> names = new ArrayList<>();
        List<Integer> starts = new ArrayList<>();
        Matcher method = METHOD.matcher(text);
        while (method.find()) {
            String head = method.group(1);
            Matcher name = Pattern.compile("([\\w$]+)\\(").matcher(head);
            String told = !name.find() ? "<clinit>" : name.group(1).equals(c.getName()) ? "<init>" : name.group(1);
            names.add(c.getName() + "." + told + method.group(2));
            starts.add(method.end());
        }
        Check.that("methods of " + c, !names.isEmpty());
        for (int i = 0; i < names.size(); i++) {
            int end = i + 1 < names.size() ? starts.get(i + 1) : text.length();
            keep(c, names.get(i), text.substring(starts.get(i), end));
        }
    }

    private void keep(Class<?> c, String name, String code) {
        Set<String> called = calls.computeIfAbsent(name, n -> new TreeSet<>());
        Check.that("rule 2: no lambda in " + name, !code.contains("invokedynamic"));
        Check.that("rule 6: no throw, no catch in " + name,
            !code.contains("athrow") && !code.contains("Exception table"));
        Matcher call = CALL.matcher(code);
        while (call.find()) {
            String owner = call.group(1) == null ? c.getName() : call.group(1);
            if (owner.startsWith("QueryHandles")) {
                called.add(owner + "." + call.group(2) + call.group(3));
            } else {
                library.add(owner + "." + call.group(2));
            }
        }
    }

    /** How many methods are open at once, this one the first. */
    private int depthOf(String method) {
        Integer known = depths.get(method);
        if (known != null) {
            return known;
        }
        Check.that("rule 8: no recursion by " + method, open.add(method));
        Check.that("there is " + method, calls.containsKey(method));
        int most = 0;
        for (String next : calls.getOrDefault(method, Set.of())) {
            most = Math.max(most, open.contains(next) ? 1000 : depthOf(next));
        }
        open.remove(method);
        depths.put(method, most + 1);
        return most + 1;
    }

    public static void main(String[] args) throws URISyntaxException {
        CallsWithinTest test = new CallsWithinTest();
        test.look(QueryHandles.class);
        for (Class<?> c : QueryHandles.class.getDeclaredClasses()) {
            test.look(c);
        }
        int deepest = 0;
        for (String method : test.calls.keySet()) {
            int depth = test.depthOf(method);
            Check.that("rule 11: " + method + " goes " + depth + " deep", depth <= 8);
            deepest = Math.max(deepest, depth);
        }
        Check.that("calls are found: " + deepest, deepest > 4);
        Check.that("rule 4: the library " + test.library, Set.of("java/lang/Object.<init>", "java/lang/Long.bitCount",
            "java/lang/Long.compare", "java/lang/Math.max", "java/lang/Math.min").containsAll(test.library));
        Check.end("CallsWithinTest");
    }
}
