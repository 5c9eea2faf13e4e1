import java.io.IOException;
import java.lang.management.ManagementFactory;
import java.lang.reflect.Field;
import java.lang.reflect.Method;
import java.lang.reflect.Modifier;
import java.nio.file.Files;
import java.nio.file.Path;
import java.util.HashSet;
import java.util.List;
import java.util.Set;
import java.util.TreeSet;
import java.util.regex.Matcher;
import java.util.regex.Pattern;

/** The rules of LANGUAGE.md that can be looked up in the source, in the class and in what it makes. */
public final class LanguageTest {
    private static final String FACE = "int cls(int,boolean); int face(); int under(int,int);"
        + " int variable(int,int); int row(int); int erased(int,int); int is(int,int);"
        + " int field(int,int,int,boolean); int method(int,int,int,int); int found(int,int); int seen(int,int);"
        + " int thing(int); int things(int,int); int kind(int,int); int isA(int,int); long read(int,int);"
        + " int write(int,int,long); long readAs(int,int,int); int writeAs(int,int,int,long);"
        + " int handle(int,int,boolean); long get(int,int); int lane(); long getAs(int,int,int);"
        + " int set(int,int,long); int column(int,int,int); int fill(int,int); int filled();"
        + " long cell(int,int); long sum(int); int query(); int test(int,int,int,long,boolean);"
        + " int run(int,int,int); int hit(int); int failed(); long total(int); int trace(int);"
        + " int told(int); int status(); long digest()";

    private static void source() throws IOException {
        String text = Files.readString(Path.of("src/main/java/QueryHandles.java"));
        Check.that("rule 4: signs are 1 to 127", text.chars().allMatch(c -> c > 0 && c < 128));
        String code = text.replaceAll("(?s)/\\*.*?\\*/", " ").replaceAll("//[^\n]*", " ");
        String[] never = {"throw", "try", "catch", "synchronized", "assert", "import", "package", "double",
            "float", "transient", "volatile", "native", "goto", "yield", "var", "protected", "Object",
            "System", "Integer", "Arrays", "Float", "Double", "String", "Exact", "instanceof"};
        for (String word : never) {
            Check.that("no word " + word, !Pattern.compile("\\b" + word + "\\b").matcher(code).find());
        }
        Check.that("no lambda, no method reference, no annotation",
            !code.contains("->") && !code.contains("::") && !code.contains("@"));
        Check.that("no while", !Pattern.compile("\\b(while|do)\\b").matcher(code).find());
        Set<String> used = new TreeSet<>();
        Matcher m = Pattern.compile("\\b(Long|Math)\\.(\\w+)").matcher(code);
        while (m.find()) {
            used.add(m.group());
        }
        Check.that("the library: " + used, Set.of("Long.MIN_VALUE", "Long.MAX_VALUE", "Long.bitCount",
            "Long.compare", "Math.max", "Math.min").containsAll(used));
        methodLengths(text);
    }

    private static void methodLengths(String text) {
        int start = -1;
        String[] lines = text.split("\n");
        for (int n = 0; n < lines.length; n++) {
            String line = lines[n];
            Check.that("line " + (n + 1) + " is no longer than 100", line.length() <= 100);
            if (line.matches(" {4}( {4})?\\S.*\\) \\{") && !line.trim().startsWith("if")
                && !line.trim().startsWith("for") && !line.trim().startsWith("switch")) {
                start = n;
            } else if (start >= 0 && line.matches(" {4}( {4})?\\}")) {
                Check.that("rule 11: method at line " + (start + 1), n - start <= 60);
                start = -1;
            }
        }
    }

    private static void face() {
        Check.that("rule 1: public and final",
            Modifier.isPublic(QueryHandles.class.getModifiers()) && Modifier.isFinal(QueryHandles.class.getModifiers()));
        Set<String> names = new HashSet<>();
        Set<String> face = new TreeSet<>();
        for (Method m : QueryHandles.class.getDeclaredMethods()) {
            if (Modifier.isPublic(m.getModifiers())) {
                names.add(m.getName());
                StringBuilder s = new StringBuilder();
                for (Class<?> p : m.getParameterTypes()) {
                    s.append(s.length() > 0 ? "," : "").append(p.getName());
                }
                face.add(m.getReturnType().getName() + " " + m.getName() + "(" + s + ")");
            } else {
                Check.that("rule 1: private " + m, Modifier.isPrivate(m.getModifiers()));
            }
        }
        Set<String> due = new TreeSet<>(List.of(FACE.split("; ")));
        Check.that("the face: " + face, face.equals(due));
        Check.due("39 calls", face.size(), 39);
        Check.due("one constructor", QueryHandles.class.getDeclaredConstructors().length, 1);
        Check.due("without parameters", QueryHandles.class.getDeclaredConstructors()[0].getParameterCount(), 0);
        Check.due("NONE", QueryHandles.NONE, -1);
        Check.due("BAD", QueryHandles.BAD, -1);
        Check.due("FULL", QueryHandles.FULL, -2);
        Check.due("NO", QueryHandles.NO, -3);
        Check.due("LOST", QueryHandles.LOST, Long.MIN_VALUE);
        Set<String> open = new TreeSet<>();
        for (Field f : QueryHandles.class.getDeclaredFields()) {
            if (!Modifier.isPrivate(f.getModifiers())) {
                open.add(f.getName());
            }
        }
        Check.that("constants " + open, open.equals(Set.of("NONE", "BAD", "FULL", "NO", "LOST")));
        classes(names);
    }

    private static void classes(Set<String> names) {
        Class<?>[] inside = QueryHandles.class.getDeclaredClasses();
        Check.that("rule 11: twelve classes", inside.length + 1 <= 12);
        for (Class<?> c : inside) {
            Check.that("rule 2: static " + c, Modifier.isStatic(c.getModifiers()));
            Check.that("rule 1: not public " + c, !Modifier.isPublic(c.getModifiers()));
            Check.due("rule 2: none inside " + c, c.getDeclaredClasses().length, 0);
            fields(c);
            for (Method m : c.getDeclaredMethods()) {
                Check.that("rule 1: name of " + m, !names.contains(m.getName()));
                Check.that("rule 11: parameters of " + m, m.getParameterCount() <= 7);
            }
        }
        fields(QueryHandles.class);
    }

    private static void fields(Class<?> c) {
        int own = 0;
        for (Field f : c.getDeclaredFields()) {
            if (Modifier.isStatic(f.getModifiers())) {
                Check.that("rule 5: final " + f, Modifier.isFinal(f.getModifiers()));
            } else {
                own++;
            }
        }
        Check.that("rule 11: fields of " + c, own <= 20);
    }

    /** Bytes are more than fields and elements, and sixteen of them more than an object. */
    private static void room() {
        com.sun.management.ThreadMXBean counter =
            (com.sun.management.ThreadMXBean) ManagementFactory.getThreadMXBean();
        long self = Thread.currentThread().getId();
        long before = counter.getThreadAllocatedBytes(self);
        for (int n = 0; n < 512; n++) {
            new QueryHandles();
        }
        long after = counter.getThreadAllocatedBytes(self);
        Check.that("rule 12: 512 objects made: " + (after - before), after - before < 3000000);
        before = counter.getThreadAllocatedBytes(self);
        QueryHandles x = new QueryHandles();
        int c = 8;
        for (int n = 0; n < 40; n++) {
            c = x.cls(c, false);
            for (int k = 0; k < 10; k++) {
                x.field(c, k, 4, false);
            }
        }
        for (int n = 0; n < 60; n++) {
            x.thing(c);
        }
        for (int n = 0; n < 512; n++) {
            x.column(n % 6, 7, 60);
        }
        after = counter.getThreadAllocatedBytes(self);
        Check.that("rule 12: the dearest run: " + (after - before), after - before < 3000000);
        before = counter.getThreadAllocatedBytes(self);
        x.handle(9, 0, false);
        x.query();
        x.test(0, 0, 2, 0, false);
        for (int n = 0; n < 512; n++) {
            x.fill(0, 0);
            x.run(0, 0, 60);
            x.total(0);
            x.digest();
            x.sum(0);
        }
        after = counter.getThreadAllocatedBytes(self);
        Check.that("rule 12: what reads makes nothing: " + (after - before), after - before < 100000);
    }

    public static void main(String[] args) throws IOException {
        source();
        face();
        room();
        Check.end("LanguageTest");
    }
}
