import java.io.IOException;
import java.lang.management.ManagementFactory;
import java.lang.reflect.Field;
import java.lang.reflect.Method;
import java.lang.reflect.Modifier;
import java.nio.file.Files;
import java.nio.file.Path;
import java.util.HashSet;
import java.util.Set;
import java.util.TreeSet;
import java.util.regex.Matcher;
import java.util.regex.Pattern;

/** The rules of LANGUAGE.md that can be looked up in the source, in the class and in what it makes. */
public final class LanguageTest {
    private static void source() throws IOException {
        String text = Files.readString(Path.of("src/main/java/QueryHandles.java"));
        Check.that("rule 4: signs are 1 to 127", text.chars().allMatch(c -> c > 0 && c < 128));
        String code = text.replaceAll("(?s)/\\*.*?\\*/", " ").replaceAll("//[^\n]*", " ");
        String[] never = {"throw", "try", "catch", "synchronized", "assert", "import", "package", "double",
            "float", "transient", "volatile", "native", "goto", "yield", "var", "protected", "Object",
            "System", "Integer", "Arrays", "Float", "Double", "String", "Exact", "instanceof"};
        for (String word : never) {
            Check.that("no word " + word, !Pattern.compile("\\b" + word + "\\b").matcher(code).find());
        }
        Check.that("no lambda, no method reference, no annotation",
            !code.contains("->") && !code.contains("::") && !code.contains("@"));
        Check.that("no while", !Pattern.compile("\\b(while|do)\\b").matcher(code).find());
        Set<String> used = new TreeSet<>();
        Matcher m = Pattern.compile("\\b(Long|Math)\\.(\\w+)").matcher(code);
        while (m.find()) {
            used.add(m.group());
        }
        Check.that("the library: " + used, Set.of("Long.MIN_VALUE", "Long.MAX_VALUE", "Long.bitCount",
            "Long.compare", "Math.max", "Math.min").containsAll(used));
        methodLengths(text);
    }

    private static void methodLengths(String text) {
        int start = -1;
        String[] lines = text.split("\n");
        for (int n = 0; n < lines.length; n++) {
            String line = lines[n];
            Check.that("line " + (n + 1) + " is no longer than 100", line.length() <= 100);
            if (line.matches(" {4}( {4})?\\S.*\\) \\{") && !line.trim().startsWith("if")
                && !line.trim().startsWith("for") && !line.trim().startsWith("switch")) {
                start = n;
            } else if (start >= 0 && line.matches(" {4}( {4})?\\}")) {
                Check.that("rule 11: method at line " + (start + 1), n - start <= 60);
                start = -1;
            }
        }
    }

    /** The face itself is held against the document in FaceTest. */
    private static void names() {
        Set<String> names = new HashSet<>();
        for (Method m : QueryHandles.class.getDeclaredMethods()) {
            if (Modifier.isPublic(m.getModifiers())) {
                names.add(m.getName());
            } else {
                Check.that("rule 1: private " + m, Modifier.isPrivate(m.getModifiers()));
            }
        }
        for (Method m : QueryHandles.class.getDeclaredMethods()) {
            Check.that("rule 1: name of " + m, Modifier.isPublic(m.getModifiers()) || !names.contains(m.getName()));
            Check.that("rule 11: parameters of " + m, m.getParameterCount() <= 7);
        }
        classes(names);
    }

    private static void classes(Set<String> names) {
        Class<?>[] inside = QueryHandles.class.getDeclaredClasses();
        Check.that("rule 11: twelve classes", inside.length + 1 <= 12);
        for (Class<?> c : inside) {
            Check.that("rule 2: static " + c, Modifier.isStatic(c.getModifiers()));
            Check.that("rule 1: not public " + c, !Modifier.isPublic(c.getModifiers()));
            Check.due("rule 2: none inside " + c, c.getDeclaredClasses().length, 0);
            fields(c);
            for (Method m : c.getDeclaredMethods()) {
                Check.that("rule 1: name of " + m, !names.contains(m.getName()));
                Check.that("rule 11: parameters of " + m, m.getParameterCount() <= 7);
            }
        }
        fields(QueryHandles.class);
    }

    private static void fields(Class<?> c) {
        int own = 0;
        for (Field f : c.getDeclaredFields()) {
            if (Modifier.isStatic(f.getModifiers())) {
                Check.that("rule 5: final " + f, Modifier.isFinal(f.getModifiers()));
            } else {
                own++;
            }
        }
        Check.that("rule 11: fields of " + c, own <= 20);
    }

    /** Bytes are more than fields and elements, and sixteen of them more than an object. */
    private static void room() {
        com.sun.management.ThreadMXBean counter =
            (com.sun.management.ThreadMXBean) ManagementFactory.getThreadMXBean();
        long self = Thread.currentThread().getId();
        long before = counter.getThreadAllocatedBytes(self);
        for (int n = 0; n < 512; n++) {
            new QueryHandles();
        }
        long after = counter.getThreadAllocatedBytes(self);
        Check.that("rule 12: 512 objects made: " + (after - before), after - before < 3000000);
        before = counter.getThreadAllocatedBytes(self);
        QueryHandles x = new QueryHandles();
        int c = 8;
        for (int n = 0; n < 40; n++) {
            c = x.cls(c, false);
            for (int k = 0; k < 10; k++) {
                x.field(c, k, 4, false);
            }
        }
        for (int n = 0; n < 60; n++) {
            x.thing(c);
        }
        for (int n = 0; n < 512; n++) {
            x.column(n % 6, 7, 60);
        }
        after = counter.getThreadAllocatedBytes(self);
        Check.that("rule 12: the dearest run: " + (after - before), after - before < 3000000);
        before = counter.getThreadAllocatedBytes(self);
        x.handle(9, 0, false);
        x.query();
        x.test(0, 0, 2, 0, false);
        for (int n = 0; n < 512; n++) {
            x.fill(0, 0);
            x.run(0, 0, 60);
            x.total(0);
            x.digest();
            x.sum(0);
        }
        after = counter.getThreadAllocatedBytes(self);
        Check.that("rule 12: what reads makes nothing: " + (after - before), after - before < 100000);
    }

    public static void main(String[] args) throws IOException {
        source();
        names();
        room();
        Check.end("LanguageTest");
    }
}
