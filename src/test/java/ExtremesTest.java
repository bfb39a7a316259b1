import java.lang.reflect.Method;
import java.lang.reflect.Modifier;
import java.util.ArrayList;
import java.util.Arrays;
import java.util.Comparator;
import java.util.List;
import java.util.Random;

/** Every call with the least, the greatest and the edges' own numbers, in many states: none throws, all answer as Model. */
public final class ExtremesTest {
    private static final int[] NUMBERS = {Integer.MIN_VALUE, Integer.MIN_VALUE + 1, -65536, -10, -3, -2, -1, 0, 1, 2, 3, 4, 5, 6, 7, 15,
        16, 17, 49, 50, 60, 61, 63, 64, 65, 99, 100, 101, 120, 121, 149, 150, 151, 255, 256, 299, 300, 301, 320, 999, 1000, 1001,
        65535, 65536, Integer.MAX_VALUE - 1, Integer.MAX_VALUE};
    private static final int RUNS = 300;
    private static final int CALLS = 512;
    private static int wrong = 0;

    private static List<Method> face() {
        List<Method> face = new ArrayList<>();
        for (Method m : SplitBehind.class.getDeclaredMethods()) if (Modifier.isPublic(m.getModifiers())) face.add(m);
        face.sort(Comparator.comparing(Method::getName));
        return face;
    }

    private static void fill(SplitBehind x, Model m, Random random) {
        int n = 1 + random.nextInt(4), c = 2 + random.nextInt(5), policy = random.nextInt(3);
        x.shape(n, c, 80, 40, policy);
        m.shape(n, c, 80, 40, policy);
        String work = "x60;x60;x60;x60;x60;x60".substring(0, 3 + 4 * random.nextInt(6)) + (random.nextBoolean() ? ";s;s;s;s;s" : "");
        StringBuilder all = new StringBuilder(work);
        while (all.length() % 20 != 0) all.append('a');
        for (int i = 0; i < all.length(); i += 20) {
            int[] f = Texts.fiveOf(all, i);
            x.feed(f[0], f[1], f[2], f[3], f[4]);
            m.feed(f[0], f[1], f[2], f[3], f[4]);
        }
        x.work(work.length());
        m.work(work.length());
    }

    private static void run(long seed, List<Method> face) throws ReflectiveOperationException {
        Random random = new Random(seed);
        SplitBehind x = new SplitBehind();
        Model m = new Model();
        if (seed % 4 != 0) fill(x, m, random);
        for (int i = 0; i < CALLS; i++) {
            Method method = face.get(random.nextInt(face.size()));
            Object[] args = new Object[method.getParameterCount()];
            for (int j = 0; j < args.length; j++) args[j] = NUMBERS[random.nextInt(NUMBERS.length)];
            Object got = method.invoke(x, args);
            Object want = Model.class.getMethod(method.getName(), method.getParameterTypes()).invoke(m, args);
            if (!got.equals(want)) {
                wrong++;
                System.out.println("seed " + seed + ": " + method.getName() + Arrays.toString(args) + " answered " + got + ", due is " + want);
                return;
            }
        }
    }

    public static void main(String[] args) throws ReflectiveOperationException {
        List<Method> face = face();
        for (long seed = 1; seed <= RUNS; seed++) run(seed, face);
        System.out.println(RUNS + " runs of extremes, " + wrong + " with other answers than the model's");
        if (wrong > 0) System.exit(1);
    }
}
