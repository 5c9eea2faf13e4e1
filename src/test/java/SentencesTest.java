import java.io.IOException;
import java.nio.file.Files;
import java.nio.file.Path;
import java.util.HashMap;
import java.util.Map;
import java.util.TreeMap;
import java.util.regex.Matcher;
import java.util.regex.Pattern;

/**
 * Promises 1 to 40, sentence by sentence. The words that the tests quote are looked up in the document,
 * under their promise or ahead of the promises; a word of it that no test quotes is told as untried.
 */
public final class SentencesTest {
    /** What stands ahead of the promises. */
    private static final int AHEAD = 0;

    private final Map<Integer, String> texts = new TreeMap<>();
    private final Map<Integer, boolean[]> quoted = new HashMap<>();

    private SentencesTest(String document) {
        Matcher used = Pattern.compile("(?m)^An object is used .*$").matcher(document);
        Matcher terms = Pattern.compile("(?s)## Terms\n(.*?)\nAhead of the calls").matcher(document);
        Check.that("the document tells terms", used.find() && terms.find());
        keep(AHEAD, used.group() + " " + terms.group(1));
        Matcher promise = Pattern.compile("(?s)## Promise (\\d+): [^\n]*\n+`[^`]*`: (.*?)\n\n").matcher(document);
        while (promise.find()) {
            keep(Integer.parseInt(promise.group(1)), promise.group(2));
        }
        Check.due("the document tells promises", texts.size() - 1, 40);
    }

    private void keep(int promise, String text) {
        String words = text.replaceAll("```(text)?|======== \\d", " ").replaceAll("\\s+", " ");
        texts.put(promise, words);
        quoted.put(promise, new boolean[words.length()]);
    }

    private void quote(Sentences.Quote q) {
        boolean found = mark(q.promise(), q.words()) || mark(AHEAD, q.words());
        Check.that("promise " + q.promise() + " tells \"" + q.words() + "\"", found);
    }

    /** Where the words stand more than once, the first place that is not yet quoted is marked. */
    private boolean mark(int promise, String words) {
        Matcher m = Pattern.compile("(?<!\\w)" + Pattern.quote(words) + "(?!\\w)").matcher(texts.get(promise));
        boolean[] marks = quoted.get(promise);
        boolean found = false;
        boolean isNew = false;
        while (!isNew && m.find()) {
            found = true;
            isNew = !marks[m.start()];
            for (int i = m.start(); isNew && i < m.end(); i++) {
                marks[i] = true;
            }
        }
        return found;
    }

    private void untried() {
        for (Map.Entry<Integer, String> text : texts.entrySet()) {
            boolean[] marks = quoted.get(text.getKey());
            Matcher word = Pattern.compile("\\w+").matcher(text.getValue());
            while (word.find()) {
                Check.that("promise " + text.getKey() + ", word " + word.group() + " at " + word.start() + " is tried",
                    marks[word.start()]);
            }
        }
    }

    public static void main(String[] args) throws IOException {
        TypeSentences.all();
        MemberSentences.all();
        ThingSentences.all();
        HandleSentences.all();
        ColumnSentences.all();
        QuerySentences.all();
        ToldSentences.all();
        SentencesTest looked = new SentencesTest(Files.readString(Path.of("../shared/DOC.md")));
        for (Sentences.Quote q : Sentences.QUOTES) {
            looked.quote(q);
        }
        looked.untried();
        System.out.println(Sentences.QUOTES.size() + " tests of sentences");
        Check.end("SentencesTest");
    }
}
