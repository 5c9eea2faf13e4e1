import java.io.IOException;
import java.nio.file.Files;
import java.nio.file.Path;
import java.util.ArrayList;
import java.util.HashMap;
import java.util.List;
import java.util.Map;
import java.util.Set;
import java.util.TreeMap;
import java.util.TreeSet;
import java.util.regex.Matcher;
import java.util.regex.Pattern;
import java.util.stream.Stream;

/** README.md: its programs tell what it says, and its tables have all calls, groups and refusals. */
public final class ReadmeTest {
    private static final String NEW_OBJECT = "QueryHandles x = new QueryHandles();";
    private static final Pattern LINE =
        Pattern.compile("(?:int (\\w+) = )?x\\.(\\w+)\\(([^()]*)\\); *// (-?\\d+|LOST)(:.*)?");
    private static final Pattern ROW = Pattern.compile("(?m)^\\| `(\\w+ (\\w+)\\(.*\\))` \\| [^|]* \\| ([A-Z ]*)\\|$");

    private final String readme;
    private final String document;
    /** The numbers of the refusals by their names. */
    private final Map<String, Integer> numbers = new TreeMap<>();

    private ReadmeTest() throws IOException {
        readme = Files.readString(Path.of("README.md"));
        document = Files.readString(Path.of("../shared/DOC.md"));
    }

    private void programs() {
        Matcher program = Pattern.compile("(?s)```java\n(.*?)```").matcher(readme);
        int n = 0;
        Set<String> tried = new TreeSet<>();
        while (program.find()) {
            n++;
            run("program " + n, program.group(1).split("\n"), tried);
        }
        Check.that("there are programs", n >= 3);
        Check.that("they make calls: " + tried, tried.size() >= 20);
    }

    private static void run(String program, String[] lines, Set<String> tried) {
        Check.that(program + " makes an object first", lines[0].equals(NEW_OBJECT));
        QueryHandles x = new QueryHandles();
        Map<String, Long> known = new HashMap<>(Map.of("true", 1L, "false", 0L));
        for (int i = 1; i < lines.length; i++) {
            Matcher m = LINE.matcher(lines[i]);
            Check.that(program + ", a call with its answer: " + lines[i], m.matches());
            if (m.matches()) {
                long got = Calls.make(x, m.group(2), numbersOf(m.group(3), known));
                Check.due(program + ", " + lines[i], got, m.group(4).equals("LOST") ? QueryHandles.LOST
                    : Long.parseLong(m.group(4)));
                tried.add(m.group(2));
                if (m.group(1) != null) {
                    Check.that("it is new: " + m.group(1), known.put(m.group(1), got) == null);
                    Check.that("it is an int: " + m.group(2), !Model.isLong(m.group(2)));
                }
            }
        }
    }

    /** The numbers of a call, written as numbers or by names that lines ahead gave. */
    private static long[] numbersOf(String written, Map<String, Long> known) {
        String[] words = written.isEmpty() ? new String[0] : written.split(", ");
        long[] numbers = new long[words.length];
        for (int i = 0; i < words.length; i++) {
            boolean isNumber = words[i].matches("-?\\d+");
            Check.that("it is known: " + words[i], isNumber || known.containsKey(words[i]));
            numbers[i] = isNumber ? Long.parseLong(words[i]) : known.getOrDefault(words[i], 0L);
        }
        return numbers;
    }

    /** The calls stand in the document's groups and order, as it declares them. */
    private void groups() {
        Matcher group = Pattern.compile("(?m)^Ahead of the calls (.*) the interface says: ---- (.*)\\.$").matcher(document);
        int calls = 0;
        while (group.find()) {
            int start = readme.indexOf("\n### " + group.group(2) + "\n");
            Check.that("a part on " + group.group(2), start >= 0);
            int end = readme.indexOf("\n##", start + 1);
            List<String> names = new ArrayList<>();
            Matcher row = ROW.matcher(readme.substring(Math.max(start, 0), Math.max(end, 0)));
            while (row.find()) {
                names.add("`" + row.group(2) + "`");
                Check.that(row.group(1), document.contains("    public " + row.group(1) + ";\n"));
                calls++;
            }
            Check.that(group.group(2) + ": " + names, group.group(1).equals(String.join(", ", names)));
        }
        Check.due("calls in tables", calls, 39);
    }

    private void refusals() {
        String terms = document.substring(document.indexOf("## Terms"), document.indexOf("======== 1"));
        Matcher first = Pattern.compile("\\b([A-Z]+) (-\\d)\\b").matcher(terms);
        while (first.find()) {
            numbers.put(first.group(1), Integer.parseInt(first.group(2)));
        }
        Matcher finding = Pattern.compile("(-\\d\\d) ([A-Z]+)").matcher(terms);
        while (finding.find()) {
            numbers.put(finding.group(2), Integer.parseInt(finding.group(1)));
        }
        Check.due("refusals and findings", numbers.size(), 12);
        for (Map.Entry<String, Integer> told : numbers.entrySet()) {
            Check.that(told.toString(), readme.contains("\n| " + told.getValue() + " | " + told.getKey() + " | "));
        }
    }

    /** What ModelTest's runs come to is what the last row of the tables says. */
    private void refusalsOfEachCall() {
        Set<String> due = new TreeSet<>(List.of("hit -1", "told -1"));
        Stream.of(ModelTest.MUST).filter(kind -> !kind.endsWith(" told")).forEach(due::add);
        Set<String> got = new TreeSet<>();
        Matcher row = ROW.matcher(readme);
        while (row.find()) {
            for (String why : row.group(3).isBlank() ? new String[0] : row.group(3).trim().split(" ")) {
                Check.that(why + " is a refusal", numbers.containsKey(why));
                got.add(row.group(2) + " " + numbers.get(why));
            }
        }
        for (String kind : due) {
            Check.that("the tables tell: " + kind, got.contains(kind));
        }
        for (String kind : got) {
            Check.that("the runs come to: " + kind, due.contains(kind));
        }
    }

    private void tests() throws IOException {
        try (Stream<Path> files = Files.list(Path.of("src/test/java"))) {
            for (Path file : files.toList()) {
                String name = file.getFileName().toString().replace(".java", "");
                Check.that("a row on " + name, !name.endsWith("Test") || readme.contains("\n| " + name + " | "));
            }
        }
        Check.that("how tests are run", readme.contains("\n    bash .ci/run\n"));
    }

    public static void main(String[] args) throws IOException {
        ReadmeTest test = new ReadmeTest();
        test.programs();
        test.groups();
        test.refusals();
        test.refusalsOfEachCall();
        test.tests();
        Check.end("ReadmeTest");
    }
}
