import java.util.Random;

/** Laws and work, right and spoilt, told to SplitBehind and to Model: faults, hashes and files alike. */
public final class TextFaultsTest {
    private static final String[] LAW_PIECES = {"k", "k", "k", "(", "(", ")", ")", "~", "<", "<1", "<9", "<0", "r", "+", "-", "*", "/",
        "%", "^", "&", "|", "0", "7", "65535", "65536", "12345", "123456", "00000", "000000", " ", "x", "K"};
    private static final String[] WORK_PIECES = {"p", "d", "g", "s", "j", "n", "x", "y", "s;", "j;", ";", ";", ",", ",", "1", "0", "60",
        "61", "255", "256", "9999", "10000", "65535", "65536", "00001", "000001", "p1,2", "n5,3,7", "x9", "y4", "d1", " ", "q"};

    private static int wrong = 0;

    private static String textOf(Random random, String[] pieces, int most) {
        StringBuilder s = new StringBuilder();
        int many = 1 + random.nextInt(most);
        for (int i = 0; i < many; i++) s.append(pieces[random.nextInt(pieces.length)]);
        return s.toString();
    }

    private static void feedBoth(SplitBehind x, Model m, String text) {
        StringBuilder all = new StringBuilder(text);
        while (all.length() % 20 != 0) all.append(';');
        for (int i = 0; i < all.length(); i += 20) {
            int[] f = Texts.fiveOf(all, i);
            x.feed(f[0], f[1], f[2], f[3], f[4]);
            m.feed(f[0], f[1], f[2], f[3], f[4]);
        }
    }

    private static boolean same(String call, int got, int want) {
        if (got != want) {
            wrong++;
            System.out.println(call + " answered " + got + ", due is " + want);
        }
        return got == want;
    }

    private static void law(SplitBehind x, Model m, String text, Random random) {
        if (text.length() > 60) return;
        feedBoth(x, m, text);
        if (!same("law " + text, x.law(text.length()), m.law(text.length()))) return;
        for (int i = 0; i < 3; i++) {
            int key = random.nextInt(65536);
            same("hash of " + key + " by " + text, x.keyIs(key, 0), m.keyIs(key, 0));
        }
    }

    private static void work(String text) {
        if (text.length() > 120) return;
        SplitBehind x = new SplitBehind();
        Model m = new Model();
        feedBoth(x, m, text);
        same("work " + text, x.work(text.length()), m.work(text.length()));
        for (int i = 5; i <= 16; i++) same("fileIs(" + i + ") behind " + text, x.fileIs(i), m.fileIs(i));
        same("X behind " + text, x.count(3), m.count(3));
    }

    public static void main(String[] args) {
        Random random = new Random(2026);
        SplitBehind x = new SplitBehind();
        Model m = new Model();
        for (int i = 0; i < 60000; i++) law(x, m, textOf(random, LAW_PIECES, i % 3 == 0 ? 4 : 14), random);
        for (int i = 0; i < 20000; i++) work(textOf(random, WORK_PIECES, i % 3 == 0 ? 6 : 24));
        System.out.println("80000 texts, " + wrong + " answers other than the model's");
        if (wrong > 0) System.exit(1);
    }
}
