import java.io.IOException;
import java.lang.reflect.Constructor;
import java.lang.reflect.Field;
import java.lang.reflect.Method;
import java.lang.reflect.Modifier;
import java.nio.file.Files;
import java.nio.file.Path;
import java.util.ArrayList;
import java.util.List;
import java.util.Random;
import java.util.Set;
import java.util.TreeSet;
import java.util.regex.Matcher;
import java.util.regex.Pattern;

/** "The public face" of the document, and what "What it is" and "Not promised" leave to be tried. */
public final class FaceTest {
    private static final long[] WILD = {0, 1, -1, 2, 7, 8, 9, 10, 59, 60, 99, 100, Integer.MAX_VALUE,
        Integer.MIN_VALUE, Long.MAX_VALUE, Long.MIN_VALUE};

    private final List<String> declarations = new ArrayList<>();
    private final String document;
    private final String source;

    private FaceTest() throws IOException {
        document = Files.readString(Path.of("../shared/DOC.md"));
        source = Files.readString(Path.of("src/main/java/QueryHandles.java"));
        Matcher face = Pattern.compile("(?s)## The public face\n+```java\n(.*?)```").matcher(document);
        Check.that("the document tells a face", face.find());
        Matcher declared = Pattern.compile("(?m)^    (public .*);$").matcher(face.group(1));
        while (declared.find()) {
            declarations.add(declared.group(1));
        }
        Check.due("two rows of constants, a constructor, 39 calls", declarations.size(), 42);
    }

    /** The names of parameters and the order, which reflection does not tell. */
    private void inTheSource() {
        int at = source.indexOf("public final class QueryHandles {");
        Check.that("the class", at >= 0);
        for (String declared : declarations) {
            String line = "\n    " + declared + (declared.contains("(") ? " {\n" : ";\n");
            int next = source.indexOf(line);
            Check.that("\"" + declared + "\" stands in its turn", next > at);
            at = next;
        }
    }

    private void byReflection() {
        Set<String> got = new TreeSet<>();
        for (Method m : QueryHandles.class.getDeclaredMethods()) {
            if (!Modifier.isPrivate(m.getModifiers())) {
                String kinds = kinds(m.getParameterTypes());
                got.add(Modifier.toString(m.getModifiers()) + " " + m.getReturnType() + " " + m.getName() + kinds);
            }
        }
        for (Constructor<?> c : QueryHandles.class.getDeclaredConstructors()) {
            got.add(Modifier.toString(c.getModifiers()) + " QueryHandles" + kinds(c.getParameterTypes()));
        }
        Set<String> due = new TreeSet<>();
        for (String declared : declarations) {
            if (declared.contains("(")) {
                due.add(declared.replaceAll("(int|long|boolean) \\w+([,)])", "$1$2"));
            }
        }
        Check.that("no other call than the document's: " + got, got.equals(due));
        Check.due("39 calls and a constructor", got.size(), 40);
        Check.that("the class is public and final",
            Modifier.toString(QueryHandles.class.getModifiers()).equals("public final"));
    }

    private static String kinds(Class<?>[] parameters) {
        List<String> names = new ArrayList<>();
        for (Class<?> p : parameters) {
            names.add(p.getName());
        }
        return "(" + String.join(", ", names) + ")";
    }

    private static void constants() {
        Check.due("NONE", QueryHandles.NONE, -1);
        Check.due("BAD", QueryHandles.BAD, -1);
        Check.due("FULL", QueryHandles.FULL, -2);
        Check.due("NO", QueryHandles.NO, -3);
        Check.due("LOST", QueryHandles.LOST, Long.MIN_VALUE);
        Set<String> open = new TreeSet<>();
        for (Field f : QueryHandles.class.getDeclaredFields()) {
            if (!Modifier.isPrivate(f.getModifiers())) {
                open.add(f.getType() + " " + f.getName());
            }
        }
        Check.that("no other constants: " + open,
            open.equals(Set.of("int NONE", "int BAD", "int FULL", "int NO", "long LOST")));
    }

    /** "Ahead of the calls .. the interface says: ---- n .." */
    private void groups() {
        Matcher group = Pattern.compile("(?m)^Ahead of the calls (.*) the interface says: (---- .*)\\.$").matcher(document);
        int calls = 0;
        while (group.find()) {
            int start = source.indexOf("    // " + group.group(2) + "\n");
            int end = source.indexOf("    // ---- ", start + 1);
            Check.that(group.group(2), start >= 0 && end > start);
            Matcher name = Pattern.compile("`(\\w+)`").matcher(group.group(1));
            while (name.find()) {
                Matcher declared = Pattern.compile("    public \\w+ " + name.group(1) + "\\(").matcher(source);
                Check.that(name.group(1) + "() stands behind " + group.group(2),
                    declared.find() && declared.start() > start && declared.start() < end);
                calls++;
            }
        }
        Check.due("calls in groups", calls, 39);
    }

    private record Call(String name, long[] numbers) { }

    private static List<Call> wildCalls(long seed, int n) {
        Random chance = new Random(seed);
        List<Call> calls = new ArrayList<>();
        List<String> names = Calls.names();
        for (int i = 0; i < n; i++) {
            String name = names.get(chance.nextInt(names.size()));
            long[] p = new long[5];
            for (int k = 0; k < p.length; k++) {
                p[k] = chance.nextInt(3) == 0 ? WILD[chance.nextInt(WILD.length)] : chance.nextInt(14) - 1;
            }
            calls.add(new Call(name, p));
        }
        return calls;
    }

    /** The same calls tell the same, whatever other objects are asked in between. */
    private static void objectsApart() {
        List<Call> calls = wildCalls(1, 512);
        QueryHandles alone = new QueryHandles();
        long[] due = new long[calls.size()];
        for (int i = 0; i < due.length; i++) {
            due[i] = Calls.make(alone, calls.get(i).name(), calls.get(i).numbers());
        }
        QueryHandles one = new QueryHandles();
        QueryHandles other = new QueryHandles();
        List<Call> others = wildCalls(2, 512);
        for (int i = 0; i < due.length; i++) {
            Call c = calls.get(i);
            Check.due("beside another: " + c.name(), Calls.make(one, c.name(), c.numbers()), due[i]);
            Calls.make(other, others.get(i).name(), others.get(i).numbers());
        }
    }

    /** What is answered behind the 512th call is free, but it is answered. */
    private static void farBeyond() {
        for (long seed = 3; seed < 13; seed++) {
            QueryHandles x = new QueryHandles();
            for (Call c : wildCalls(seed, 20000)) {
                Calls.make(x, c.name(), c.numbers());
            }
            Check.that("types are made and full", x.told(0) == 91);
            Check.that("things are made and full", x.told(1) == 60);
        }
    }

    public static void main(String[] args) throws IOException {
        FaceTest face = new FaceTest();
        face.inTheSource();
        face.byReflection();
        face.groups();
        constants();
        objectsApart();
        farBeyond();
        Check.end("FaceTest");
    }
}
