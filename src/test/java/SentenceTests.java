import java.io.IOException;
import java.lang.reflect.Method;
import java.nio.charset.StandardCharsets;
import java.nio.file.Files;
import java.nio.file.Path;
import java.util.ArrayList;
import java.util.Comparator;
import java.util.List;

/** Runs the tests that are named by a sentence, each on a new book; looks that each promise has some. */
public final class SentenceTests {
    private static final Class<?>[] ALL = {TextSentences.class, RuleSentences.class, StandSentences.class,
        ActSentences.class, SlipSentences.class, AheadSentences.class, NoteSentences.class};
    private static final int PROMISES = 42;

    private static int wrong;
    private static int asked;

    private SentenceTests() {
    }

    public static void main(String[] args) throws ReflectiveOperationException, IOException {
        String document = document();
        List<Method> tests = tests();
        boolean[] has = new boolean[PROMISES + 1];
        for (Method test : tests) {
            Sentence sentence = test.getAnnotation(Sentence.class);
            has[sentence.promise()] = true;
            if (document != null && !stands(document, sentence)) {
                complain(test.getName() + ": promise " + sentence.promise() + " has no such words: " + sentence.text());
            }
            Case one = new Case("promise " + sentence.promise() + ", \"" + sentence.text() + "\" (" + test.getName() + ")");
            test.setAccessible(true);
            test.invoke(null, one);
            asked += one.asked;
            wrong += one.wrong;
        }
        for (int promise = 1; promise <= PROMISES; promise++) {
            if (!has[promise]) {
                complain("promise " + promise + " has no test");
            }
        }
        System.out.println(wrong == 0 ? tests.size() + " sentences hold, by " + asked + " answers"
                : wrong + " answers are not as due");
        if (wrong != 0) {
            System.exit(1);
        }
    }

    private static void complain(String what) {
        wrong++;
        System.out.println(what);
    }

    private static List<Method> tests() {
        List<Method> tests = new ArrayList<>();
        for (Class<?> some : ALL) {
            for (Method method : some.getDeclaredMethods()) {
                if (method.isAnnotationPresent(Sentence.class)) {
                    tests.add(method);
                }
            }
        }
        tests.sort(Comparator.<Method>comparingInt(m -> m.getAnnotation(Sentence.class).promise())
                .thenComparing(Method::getName));
        return tests;
    }

    /** The document with single blanks; null where it is not at hand, and then the names are not looked up. */
    private static String document() throws IOException {
        Path path = Path.of("../shared/DOC.md");
        return Files.exists(path) ? Files.readString(path, StandardCharsets.UTF_8).replaceAll("\\s+", " ") : null;
    }

    private static boolean stands(String document, Sentence sentence) {
        int terms = document.indexOf("## What it is");
        int first = document.indexOf("## Promise 1:");
        int head = document.indexOf("## Promise " + sentence.promise() + ":");
        int next = head < 0 ? -1 : document.indexOf("## ", head + 3);
        if (terms < 0 || first < 0 || head < 0 || next < 0) {
            return false;
        }
        return document.substring(terms, first).contains(sentence.text())
                || document.substring(head, next).contains(sentence.text());
    }
}
