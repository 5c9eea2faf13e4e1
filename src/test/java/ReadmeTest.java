import java.io.IOException;
import java.net.URL;
import java.net.URLClassLoader;
import java.nio.file.Files;
import java.nio.file.Path;
import java.util.ArrayList;
import java.util.List;
import java.util.Map;
import java.util.Set;
import java.util.TreeMap;
import java.util.TreeSet;
import java.util.regex.Matcher;
import java.util.regex.Pattern;
import java.util.stream.Stream;
import javax.tools.ToolProvider;

/** README.md: its programs tell what it says, and its tables have all calls, groups and refusals. */
public final class ReadmeTest {
    private static final String NEW_OBJECT = "QueryHandles x = new QueryHandles();";
    private static final Pattern LINE =
        Pattern.compile("(?:int (\\w+) = )?(x\\.\\w+\\(.*?\\)); *// (-?\\d+|LOST)(:.*|,.*)?");
    private static final Pattern ROW = Pattern.compile("(?m)^\\| `(\\w+ (\\w+)\\(.*\\))` \\| [^|]* \\| ([A-Z ]*)\\|$");

    private final String readme;
    private final String document;
    /** The numbers of the refusals by their names. */
    private final Map<String, Integer> numbers = new TreeMap<>();

    private ReadmeTest() throws IOException {
        readme = Files.readString(Path.of("README.md"));
        document = Files.readString(Path.of("../shared/DOC.md"));
    }

    private void programs() throws IOException, ReflectiveOperationException {
        Matcher program = Pattern.compile("(?s)```java\n(.*?)```").matcher(readme);
        int n = 0;
        Set<String> tried = new TreeSet<>();
        while (program.find()) {
            run("Readme" + n, program.group(1).split("\n"), tried);
            n++;
        }
        Check.that("there are programs", n >= 3);
        Check.that("they make calls: " + tried, tried.size() >= 20);
    }

    private static void run(String name, String[] lines, Set<String> tried)
        throws IOException, ReflectiveOperationException {
        Check.that(name + " makes an object first", lines[0].equals(NEW_OBJECT));
        List<String> asked = new ArrayList<>();
        List<Long> due = new ArrayList<>();
        StringBuilder body = new StringBuilder(NEW_OBJECT);
        for (String line : lines) {
            Matcher m = LINE.matcher(line);
            if (!line.equals(NEW_OBJECT)) {
                Check.that("a call with its answer: " + line, m.matches());
            }
            if (m.matches()) {
                String kept = m.group(1) == null ? "" : "int " + m.group(1) + " = " + m.group(2) + ";";
                String told = m.group(1) == null ? m.group(2) : m.group(1);
                body.append(kept).append("a[").append(due.size()).append("] = ").append(told).append(";\n");
                due.add(m.group(3).equals("LOST") ? QueryHandles.LOST : Long.parseLong(m.group(3)));
                asked.add(m.group(2));
                tried.add(m.group(2).replaceAll("\\(.*", ""));
            }
        }
        long[] got = answers(name, body.toString(), due.size());
        for (int i = 0; i < got.length; i++) {
            Check.due(name + ": " + asked.get(i), got[i], due.get(i));
        }
    }

    private static long[] answers(String name, String body, int n) throws IOException, ReflectiveOperationException {
        Path dir = Files.createTempDirectory("readme");
        Path file = dir.resolve(name + ".java");
        Files.writeString(file, "public final class " + name + " { public static long[] answers() {\n"
            + "long[] a = new long[" + n + "];\n" + body + "return a; } }");
        int code = ToolProvider.getSystemJavaCompiler().run(null, null, null,
            "-cp", System.getProperty("java.class.path"), "-d", dir.toString(), file.toString());
        Check.due(name + " compiles", code, 0);
        URL[] at = {dir.toUri().toURL()};
        try (URLClassLoader loader = new URLClassLoader(at, ReadmeTest.class.getClassLoader())) {
            return (long[]) loader.loadClass(name).getMethod("answers").invoke(null);
        } finally {
            Files.delete(file);
            Files.deleteIfExists(dir.resolve(name + ".class"));
            Files.delete(dir);
        }
    }

    /** The calls stand in the document's groups and order, as it declares them. */
    private void groups() {
        Matcher group = Pattern.compile("(?m)^Ahead of the calls (.*) the interface says: ---- (.*)\\.$").matcher(document);
        int calls = 0;
        while (group.find()) {
            int start = readme.indexOf("\n### " + group.group(2) + "\n");
            Check.that("a part on " + group.group(2), start >= 0);
            int end = readme.indexOf("\n##", start + 1);
            List<String> names = new ArrayList<>();
            Matcher row = ROW.matcher(readme.substring(Math.max(start, 0), Math.max(end, 0)));
            while (row.find()) {
                names.add("`" + row.group(2) + "`");
                Check.that(row.group(1), document.contains("    public " + row.group(1) + ";\n"));
                calls++;
            }
            Check.that(group.group(2) + ": " + names, group.group(1).equals(String.join(", ", names)));
        }
        Check.due("calls in tables", calls, 39);
    }

    private void refusals() {
        String terms = document.substring(document.indexOf("## Terms"), document.indexOf("======== 1"));
        Matcher first = Pattern.compile("\\b([A-Z]+) (-\\d)\\b").matcher(terms);
        while (first.find()) {
            numbers.put(first.group(1), Integer.parseInt(first.group(2)));
        }
        Matcher finding = Pattern.compile("(-\\d\\d) ([A-Z]+)").matcher(terms);
        while (finding.find()) {
            numbers.put(finding.group(2), Integer.parseInt(finding.group(1)));
        }
        Check.due("refusals and findings", numbers.size(), 12);
        for (Map.Entry<String, Integer> told : numbers.entrySet()) {
            Check.that(told.toString(), readme.contains("\n| " + told.getValue() + " | " + told.getKey() + " | "));
        }
    }

    /** What ModelTest's runs come to is what the last row of the tables says. */
    private void refusalsOfEachCall() {
        Set<String> due = new TreeSet<>(List.of("hit -1", "told -1"));
        Stream.of(ModelTest.MUST).filter(kind -> !kind.endsWith(" told")).forEach(due::add);
        Set<String> got = new TreeSet<>();
        Matcher row = ROW.matcher(readme);
        while (row.find()) {
            for (String why : row.group(3).isBlank() ? new String[0] : row.group(3).trim().split(" ")) {
                Check.that(why + " is a refusal", numbers.containsKey(why));
                got.add(row.group(2) + " " + numbers.get(why));
            }
        }
        for (String kind : due) {
            Check.that("the tables tell: " + kind, got.contains(kind));
        }
        for (String kind : got) {
            Check.that("the runs come to: " + kind, due.contains(kind));
        }
    }

    private void tests() throws IOException {
        try (Stream<Path> files = Files.list(Path.of("src/test/java"))) {
            for (Path file : files.toList()) {
                String name = file.getFileName().toString().replace(".java", "");
                Check.that("a row on " + name, !name.endsWith("Test") || readme.contains("\n| " + name + " | "));
            }
        }
        Check.that("how tests are run", readme.contains("\n    bash .ci/run\n"));
    }

    public static void main(String[] args) throws IOException, ReflectiveOperationException {
        ReadmeTest test = new ReadmeTest();
        test.programs();
        test.groups();
        test.refusals();
        test.refusalsOfEachCall();
        test.tests();
        Check.end("ReadmeTest");
    }
}
