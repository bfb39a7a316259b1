import java.lang.reflect.InvocationTargetException;
import java.lang.reflect.Method;
import java.util.ArrayList;
import java.util.Arrays;
import java.util.Comparator;
import java.util.List;
import java.util.function.IntUnaryOperator;

/** What the tests of single sentences have in common: each is a method that bears Says, and asks what is due. */
abstract class Sentences {
    static final int NONE = -1;
    static final int[] EXTREMES = {Integer.MIN_VALUE, Integer.MIN_VALUE + 1, Integer.MAX_VALUE - 1, Integer.MAX_VALUE};
    /** The keys 0 to 299, put one behind the other. */
    static final String ALL_300 = "n0,60,1;n60,60,1;n120,60,1;n180,60,1;n240,60,1";

    private static String sentence = "";
    private static int asked = 0;
    private static int wrong = 0;

    static void due(String what, int got, int want) {
        asked++;
        if (got != want) {
            wrong++;
            System.out.println(sentence + "\n    " + what + ": answered " + got + ", due is " + want);
        }
    }

    static void due(String what, boolean got, boolean want) {
        due(what, got ? 1 : 0, want ? 1 : 0);
    }

    static void dueRow(String what, int[] got, int... want) {
        asked++;
        if (!Arrays.equals(got, want)) {
            wrong++;
            System.out.println(sentence + "\n    " + what + ": answered " + Arrays.toString(got) + ", due is " + Arrays.toString(want));
        }
    }

    /** Just outside of low to high, and as far out as can be, the answer is no; at both ends it is another one. */
    static void bounds(String what, IntUnaryOperator call, int low, int high, int no) {
        due(what + " " + (low - 1) + ", just below", call.applyAsInt(low - 1), no);
        due(what + " " + (high + 1) + ", just above", call.applyAsInt(high + 1), no);
        for (int far : EXTREMES) due(what + " " + far, call.applyAsInt(far), no);
        due(what + " " + low + " is one", call.applyAsInt(low) != no, true);
        due(what + " " + high + " is one", call.applyAsInt(high) != no, true);
    }

    static int asInt(boolean answer) {
        return answer ? 1 : 0;
    }

    static SplitBehind byHand(int n, int c, String work) {
        return Texts.made(n, c, 300, 0, 0, "k", work);
    }

    static void splitUpTo(SplitBehind x, int buckets) {
        for (int i = 0; i < 64 && x.count(1) < buckets; i++) x.split();
    }

    /** A bucket's keys in order, and its pages in order. */
    static int[] keysOf(SplitBehind x, int bucket) {
        int[] keys = new int[x.bucket(bucket, 0)];
        for (int i = 0; i < keys.length; i++) keys[i] = x.bucket(bucket, 1000 + i);
        return keys;
    }

    static int[] pagesOf(SplitBehind x, int bucket) {
        int[] pages = new int[x.bucket(bucket, 1)];
        for (int i = 0; i < pages.length; i++) pages[i] = x.bucket(bucket, 100 + i);
        return pages;
    }

    static int[] inOrderOf(SplitBehind x) {
        int[] keys = new int[x.count(0)];
        for (int i = 0; i < keys.length; i++) keys[i] = x.inOrder(i);
        return keys;
    }

    /** What a call adds to reads and writes: both, in a row. */
    static int[] costOf(SplitBehind x, Runnable call) {
        int reads = x.fileIs(11);
        int writes = x.fileIs(12);
        call.run();
        return new int[] {x.fileIs(11) - reads, x.fileIs(12) - writes};
    }

    static int drawnBehind(int x, int times) {
        long drawn = x;
        for (int i = 0; i < times; i++) drawn = (25173 * drawn + 13849) % 65536;
        return (int) drawn;
    }

    static List<Method> testsOf(Class<?> tests) {
        List<Method> all = new ArrayList<>();
        for (Method m : tests.getDeclaredMethods()) if (m.isAnnotationPresent(Says.class)) all.add(m);
        all.sort(Comparator.comparing(Method::getName));
        return all;
    }

    /** Runs every test of a class; the program ends with 1 if an answer was not as due, or a test asked nothing. */
    static void runAll(Class<?> tests) throws IllegalAccessException {
        List<Method> all = testsOf(tests);
        for (Method test : all) {
            Says says = test.getAnnotation(Says.class);
            sentence = (says.promise() == 0 ? "Terms" : "promise " + says.promise()) + ", " + String.join(" / ", says.words());
            int before = asked;
            try {
                test.invoke(null);
            } catch (InvocationTargetException e) {
                wrong++;
                System.out.println(sentence + "\n    threw " + e.getCause());
            }
            if (asked == before) {
                wrong++;
                System.out.println(sentence + "\n    asks nothing");
            }
        }
        System.out.println(all.size() + " tests of sentences, " + asked + " answers, " + wrong + " not as due");
        if (wrong > 0 || all.isEmpty()) System.exit(1);
    }
}
