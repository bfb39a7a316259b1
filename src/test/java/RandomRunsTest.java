import java.lang.reflect.Method;
import java.util.ArrayList;
import java.util.Arrays;
import java.util.HashMap;
import java.util.List;
import java.util.Map;
import java.util.Random;

/**
 * Tells the same random runs of calls to SplitBehind and to Model; every answer must be the same.
 * The runs are the same each time. Arguments: how many runs, the first seed.
 */
public final class RandomRunsTest {
    private static final Map<String, Method> OURS = methodsOf(SplitBehind.class);
    private static final Map<String, Method> THEIRS = methodsOf(Model.class);
    private static final int RUNS = 400;
    private static final int CALLS = 512;

    private final Random random;
    private final SplitBehind ours = new SplitBehind();
    private final Model theirs = new Model();
    private final List<String> told = new ArrayList<>();
    private final int keyKind;
    private int calls = 0;
    private String difference = null;

    private RandomRunsTest(long seed) {
        random = new Random(seed);
        keyKind = random.nextInt(4);
    }

    private static Map<String, Method> methodsOf(Class<?> type) {
        Map<String, Method> all = new HashMap<>();
        for (Method m : type.getDeclaredMethods()) {
            if (java.lang.reflect.Modifier.isPublic(m.getModifiers())) all.put(m.getName(), m);
        }
        return all;
    }

    private int call(String name, int... args) {
        Object[] boxed = Arrays.stream(args).boxed().toArray();
        Object a;
        Object b;
        try {
            a = OURS.get(name).invoke(ours, boxed);
            b = THEIRS.get(name).invoke(theirs, boxed);
        } catch (ReflectiveOperationException e) {
            throw new IllegalStateException(told + " " + name + Arrays.toString(args), e);
        }
        calls++;
        told.add(name + Arrays.toString(args) + " = " + b);
        if (!a.equals(b) && difference == null) {
            difference = name + Arrays.toString(args) + " answered " + a + ", due is " + b;
        }
        return b instanceof Integer i ? i : 0;
    }

    private int up(int bound) { return random.nextInt(bound); }
    private boolean chance(int percent) { return random.nextInt(100) < percent; }

    private int key() {
        if (chance(2)) return chance(50) ? -1 - up(3) : 65536 + up(3);
        if (chance(45)) {
            int there = OurFace.inOrder(ours, up(300));
            if (there >= 0) return there;
        }
        return switch (keyKind) {
            case 0 -> up(65536);
            case 1 -> up(400);
            case 2 -> up(256) * 256;
            default -> chance(50) ? up(64) : up(65536);
        };
    }

    private void feedText(String text) {
        StringBuilder all = new StringBuilder(text);
        while (all.length() % 20 != 0) all.append((char) up(256));
        for (int i = 0; i < all.length(); i += 20) {
            int[] five = new int[5];
            for (int j = 0; j < 20; j++) five[j / 4] = five[j / 4] << 8 | all.charAt(i + j);
            call("feed", five);
        }
    }

    private void emptyTape() {
        if (OurFace.tape(ours) > 0) call("check", 0);
    }

    private String number(int bound) { return String.valueOf(up(bound)); }

    private String part(int depth) {
        int kind = up(depth > 6 ? 2 : 7);
        return switch (kind) {
            case 0 -> number(chance(50) ? 20 : 65536);
            case 1, 2 -> "k";
            case 3 -> "(" + expression(depth + 1) + ")";
            case 4 -> "~" + part(depth + 1);
            case 5 -> "<" + (1 + up(9)) + part(depth + 1);
            default -> "r" + part(depth + 1);
        };
    }

    private String expression(int depth) {
        StringBuilder e = new StringBuilder(part(depth));
        int more = up(4);
        for (int i = 0; i < more; i++) e.append("+-*/%^&|".charAt(up(8))).append(part(depth));
        return e.toString();
    }

    private String step() {
        return switch (up(9)) {
            case 0 -> "p" + (key() & 65535) + "," + up(256);
            case 1 -> "d" + (key() & 65535);
            case 2 -> "g" + (key() & 65535);
            case 3 -> "s";
            case 4 -> "j";
            case 5 -> "n" + up(65536) + "," + (1 + up(60)) + "," + (chance(50) ? up(10) : up(10000));
            case 6, 7 -> "x" + (1 + up(60));
            default -> "y" + (1 + up(chance(30) ? 60 : 15));
        };
    }

    private String steps() {
        int many = chance(5) ? 18 + up(6) : 1 + up(8);
        StringBuilder s = new StringBuilder();
        for (int i = 0; i < many; i++) s.append(i == 0 ? "" : ";").append(many > 10 && chance(80) ? "s" : step());
        if (chance(3)) s.append(';');
        return s.toString();
    }

    private String spoilt(String text, String signs) {
        StringBuilder s = new StringBuilder(text);
        int times = 1 + up(2);
        for (int i = 0; i < times; i++) {
            int at = up(s.length() + 1);
            char c = chance(10) ? (char) up(256) : signs.charAt(up(signs.length()));
            switch (up(3)) {
                case 0 -> s.insert(at, c);
                case 1 -> { if (at < s.length()) s.setCharAt(at, c); }
                default -> { if (at < s.length() && s.length() > 1) s.deleteCharAt(at); }
            }
        }
        return s.toString();
    }

    private void tellLaw() {
        emptyTape();
        String text = chance(10) ? "(((((((" : expression(0);
        if (chance(30)) text = spoilt(text, "k0123456789+-*/%^&|()~<r");
        int n = Math.min(text.length(), 60 + up(2));
        feedText(text.substring(0, n));
        call("law", chance(4) ? n + up(30) - 15 : n);
        for (int i = 0; i < 3; i++) call("keyIs", up(65536), 0);
    }

    private void tellWork() {
        emptyTape();
        String text = steps();
        if (chance(25)) text = spoilt(text, "pdgsjnxy,;0123456789999");
        int n = Math.min(text.length(), 120 + up(2));
        feedText(text.substring(0, n));
        call("work", chance(4) ? n + up(30) - 15 : n);
    }

    private void tellCheck() {
        emptyTape();
        StringBuilder bytes = new StringBuilder();
        int keys = OurFace.keys(ours);
        for (int i = 0; i < keys && i < 300; i++) bytes.append((char) OurFace.valueInOrder(ours, i));
        if (chance(50) && keys > 0) bytes.setCharAt(up(keys), (char) up(256));
        feedText(bytes.toString());
        call("check", chance(60) ? keys : up(keys + 25));
    }

    private void shape() {
        boolean fits = chance(90);
        int bad = up(5);
        call("shape", !fits && bad == 0 ? up(2) * 5 : 1 + up(4), !fits && bad == 1 ? 1 + up(2) * 6 : 2 + up(5),
            !fits && bad == 2 ? 49 + up(2) * 252 : 50 + up(251), !fits && bad == 3 ? -1 + up(2) * 51 : up(50),
            !fits && bad == 4 ? -1 + up(2) * 4 : up(3));
    }

    private void change() {
        switch (up(24)) {
            case 0 -> { if (chance(20)) shape(); }
            case 1 -> { if (chance(30)) tellLaw(); }
            case 2, 3, 4 -> tellWork();
            case 5, 6, 7 -> call("put", key(), chance(3) ? 256 - up(2) * 257 : up(256));
            case 8, 9 -> call("find", key());
            case 10, 11, 12 -> call("drop", key());
            case 13 -> call("split");
            case 14 -> call("join");
            case 15 -> call("scan");
            case 16, 17, 18 -> call("tell", up(6) - 1);
            case 19 -> { if (chance(40)) call("ends", up(6) - 1); }
            case 20 -> call("seed", up(65540) - 2);
            case 21 -> { if (chance(30)) call("keep"); }
            case 22 -> { if (chance(15)) call("undo"); }
            default -> { if (chance(50)) call("feed", up(1000), up(100), random.nextInt(), 0, 7); else tellCheck(); }
        }
    }

    private void ask() {
        switch (up(26)) {
            case 0 -> call("fileIs", up(20) - 1);
            case 1 -> call("keyIs", key(), up(7) - 1);
            case 2 -> call("where", key(), up(67));
            case 3 -> call("bucket", up(66) - 1, up(4) - 1);
            case 4 -> call("bucket", up(66) - 1, 99 + up(8));
            case 5 -> call("bucket", up(20), 1000 + up(20));
            case 6 -> call("page", up(258) - 1, up(18) - 1);
            case 7 -> call("page", up(20), up(16));
            case 8 -> call("chains", chance(80) ? 1 + up(4) : up(153) - 1);
            case 9 -> call("finds", up(5) - 1);
            case 10 -> call("next", up(8) - 2);
            case 11 -> call("parted", key(), key());
            case 12 -> call("enough", chance(80) ? 1 + up(12) : up(303) - 1);
            case 13 -> call("anew", up(67), up(6) - 1);
            case 14, 15 -> call("torn", up(4) - 1, up(7) - 1, up(4) - 1);
            case 16 -> call("grown", up(102), up(8) - 1);
            case 17 -> { if (chance(30)) call("tuned", up(4) - 1); }
            case 18 -> call("signs", up(40) - 1);
            case 19 -> { if (chance(50)) call("passed", key()); }
            case 20 -> call("costing", chance(80) ? 1 + up(4) : up(153) - 1);
            case 21 -> call("since", up(6) - 1);
            case 22 -> call("alike", up(5) - 1);
            case 23 -> { call("inOrder", up(302) - 1); call("between", key(), key()); }
            case 24 -> { if (chance(50)) call("bits", key(), up(18) - 1, up(19) - 1); call("count", up(7) - 1); }
            default -> { call("scanIs", up(6) - 1, up(5) - 1); call("reach", up(6) - 1); }
        }
    }

    private void askAll() {
        for (int i = 0; i <= 16; i++) call("fileIs", i);
        int buckets = OurFace.buckets(ours);
        for (int b = 0; b < buckets; b++) {
            int keys = call("bucket", b, 0);
            for (int i = 0; i <= keys; i++) call("bucket", b, 1000 + i);
            int pages = call("bucket", b, 1);
            for (int i = 0; i <= pages; i++) call("bucket", b, 100 + i);
        }
        for (int s = 0; s < 4; s++) for (int w = 0; w < 3; w++) call("scanIs", s, w);
        for (int i = 0; i < 5; i++) call("count", i);
        for (int w = 0; w < 8; w++) for (int k = 0; k < 4; k++) call("torn", k / 2, w, k % 2);
        for (int w = 0; w < 3; w++) call("alike", w);
        for (int w = 0; w < 4; w++) call("since", w);
        for (int w = 0; w < 2; w++) call("tuned", w);
        call("enough", 1);
        for (int i = 0; i < 300; i++) call("inOrder", i);
    }

    private boolean run(long seed) {
        if (chance(80)) shape();
        if (chance(70)) tellLaw();
        int askPercent = 20 + up(60);
        while (calls < CALLS && difference == null) {
            if (chance(askPercent)) ask(); else change();
        }
        // what stands behind the 512th call is free by the document, but the state must be alike
        if (difference == null) askAll();
        if (difference != null) {
            System.out.println("seed " + seed + ", call " + calls + ": " + difference);
            told.subList(Math.max(0, told.size() - 12), told.size()).forEach(t -> System.out.println("    " + t));
        }
        return difference == null;
    }

    /** What the run asks of our object to choose its calls by, not compared with the model. */
    private static final class OurFace {
        static int inOrder(SplitBehind x, int i) { return x.inOrder(i); }
        static int tape(SplitBehind x) { return x.count(2); }
        static int keys(SplitBehind x) { return x.count(0); }
        static int buckets(SplitBehind x) { return x.count(1); }

        static int valueInOrder(SplitBehind x, int i) {
            // a find would count reads: page contents tell keys alone, so guess by the drawn key's value
            return x.inOrder(i) & 255;
        }
    }

    public static void main(String[] args) {
        int runs = args.length > 0 ? Integer.parseInt(args[0]) : RUNS;
        long first = args.length > 1 ? Long.parseLong(args[1]) : 1;
        int wrong = 0;
        long calls = 0;
        for (long seed = first; seed < first + runs; seed++) {
            RandomRunsTest test = new RandomRunsTest(seed);
            if (!test.run(seed)) wrong++;
            calls += test.calls;
        }
        System.out.println(runs + " random runs, " + calls + " calls, " + wrong + " runs with other answers than the model's");
        if (wrong > 0) System.exit(1);
    }
}
