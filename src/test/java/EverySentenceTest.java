import java.io.IOException;
import java.lang.reflect.Method;
import java.nio.file.Files;
import java.nio.file.Path;
import java.util.ArrayList;
import java.util.List;
import java.util.Map;
import java.util.TreeMap;
import java.util.regex.Matcher;
import java.util.regex.Pattern;

/**
 * The words that tests name stand in the document, in the part that they name; and each word of "Terms" and of the
 * promises is named by a test. So a sentence that is new, or is changed, is seen here first.
 */
public final class EverySentenceTest {
    private static final Path DOCUMENT = Path.of("../shared/DOC.md");
    private static final List<Class<?>> TESTS = List.of(FileBoundsTest.class, LawBoundsTest.class, WorkBoundsTest.class,
        ReckonedBoundsTest.class, PromiseBoundsTest.class, LaterPromiseBoundsTest.class, RefusalsTest.class);
    private static final int PROMISES = 42;

    private static int wrong = 0;

    private static void fail(String what) {
        wrong++;
        System.out.println(what);
    }

    private static String plain(String text) {
        return text.replaceAll("```(text)?", " ").replace("====", " ").replaceAll("\\b2\\. ORDER", "ORDER").replace("`", "")
            .replaceAll("\\s+", " ").trim();
    }

    /** The parts of the document by number: 0 is "Terms", the others are promises, without their signatures. */
    private static Map<Integer, String> partsOf(String document) {
        Map<Integer, String> parts = new TreeMap<>();
        for (String part : document.split("(?m)^## ")) {
            String head = part.lines().findFirst().orElse("");
            String body = part.substring(head.length());
            Matcher promise = Pattern.compile("Promise (\\d+): .*").matcher(head);
            if (head.equals("Terms")) parts.put(0, plain(body));
            if (promise.matches()) parts.put(Integer.parseInt(promise.group(1)), plain(body.replaceFirst("`[^`]*`: ", "")));
        }
        return parts;
    }

    /** Marks each place where the words stand; whether there is one. */
    private static boolean mark(String part, String words, boolean[] named) {
        boolean isThere = false;
        for (int at = part.indexOf(words); at >= 0; at = part.indexOf(words, at + 1)) {
            isThere = true;
            for (int i = at; i < at + words.length(); i++) named[i] = true;
        }
        return isThere;
    }

    private static List<String> notNamed(String part, boolean[] named) {
        StringBuilder left = new StringBuilder();
        for (int i = 0; i < part.length(); i++) left.append(named[i] ? '\n' : part.charAt(i));
        List<String> rows = new ArrayList<>();
        for (String row : left.toString().split("\n+")) if (row.matches(".*[A-Za-z0-9].*")) rows.add(row.trim());
        return rows;
    }

    public static void main(String[] args) throws IOException {
        if (!Files.isReadable(DOCUMENT)) {
            System.out.println("the document is not here: what tests name is not compared with it");
            return;
        }
        Map<Integer, String> parts = partsOf(Files.readString(DOCUMENT));
        if (parts.size() != PROMISES + 1) fail("the document has " + parts.size() + " parts, due are " + (PROMISES + 1));
        Map<Integer, boolean[]> named = new TreeMap<>();
        parts.forEach((number, part) -> named.put(number, new boolean[part.length()]));
        int tests = 0;
        for (Class<?> c : TESTS) {
            for (Method test : Sentences.testsOf(c)) {
                tests++;
                Says says = test.getAnnotation(Says.class);
                for (String words : says.words()) {
                    String part = parts.get(says.promise());
                    if (part == null || !mark(part, words, named.get(says.promise()))) {
                        fail(c.getName() + "." + test.getName() + " names what part " + says.promise() + " does not say: " + words);
                    }
                }
            }
        }
        parts.forEach((number, part) -> notNamed(part, named.get(number)).forEach(row -> fail("no test names, in part " + number + ": " + row)));
        System.out.println(tests + " tests name their sentences, " + wrong + " not as due");
        if (wrong > 0) System.exit(1);
    }
}
