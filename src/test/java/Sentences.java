import java.io.IOException;
import java.lang.reflect.InvocationTargetException;
import java.lang.reflect.Method;
import java.nio.file.Files;
import java.nio.file.Path;
import java.util.Arrays;
import java.util.Comparator;
import java.util.Map;
import java.util.TreeMap;
import java.util.regex.Matcher;
import java.util.regex.Pattern;

/** The document's sentences: runs the tests that tell one, and knows which of them none has told. */
final class Sentences {
    private static final int PROMISES = 35;
    private static final Pattern LINE = Pattern.compile("(?m)^## Promise (\\d+): .*\\s+`[^`]*`: (.*)$");

    private final Map<Integer, String> texts = new TreeMap<>();
    private final Map<Integer, boolean[]> told = new TreeMap<>();

    Sentences(Path document) throws IOException {
        String all = Files.readString(document);
        String terms = all.substring(all.indexOf("\n## Terms\n") + 10, all.indexOf("\nThe constants:"));
        texts.put(0, terms.replaceAll("(?m)^==== \\d ", "").replaceAll("\\s+", " ").trim());
        Matcher line = LINE.matcher(all);
        while (line.find()) {
            texts.put(Integer.parseInt(line.group(1)), line.group(2).trim());
        }
        texts.forEach((promise, text) -> told.put(promise, new boolean[text.length()]));
        Check.part("the document");
        Check.due("its promises and its terms", texts.size(), PROMISES + 1);
    }

    /** Runs each test of the class that says a sentence. */
    void run(Class<?> edges) throws IllegalAccessException, InvocationTargetException {
        Method[] tests = edges.getDeclaredMethods();
        Arrays.sort(tests, Comparator.comparing(Method::getName));
        for (Method test : tests) {
            Says says = test.getAnnotation(Says.class);
            if (says != null) {
                Check.part(edges.getSimpleName() + "." + test.getName() + " \"" + says.value() + "\"");
                tell(says.promise(), says.value());
                int before = Check.count();
                test.invoke(null);
                Check.due("something was looked at", Check.count() > before ? 1 : 0, 1);
            }
        }
    }

    private void tell(int promise, String sentence) {
        String text = texts.getOrDefault(promise, "");
        int start = text.indexOf(sentence);
        if (start < 0 || sentence.isEmpty()) {
            Check.tellWrong("the document does not say it under " + promise);
        }
        for (int at = start; at >= 0; at = text.indexOf(sentence, at + 1)) {
            Arrays.fill(told.get(promise), at, at + sentence.length(), true);
        }
    }

    /** Each word of the terms and of the promises' lines must stand in a sentence that a test tells. */
    void tellUntold() {
        for (int promise : texts.keySet()) {
            StringBuilder left = new StringBuilder();
            for (int i = 0; i < texts.get(promise).length(); i++) {
                left.append(told.get(promise)[i] ? ' ' : texts.get(promise).charAt(i));
            }
            String words = left.toString().replaceAll("[^A-Za-z0-9]+", " ").trim();
            Check.part("sentences that no test tells");
            Check.due(promise == 0 ? "terms" : "promise " + promise, words, "");
        }
    }
}
