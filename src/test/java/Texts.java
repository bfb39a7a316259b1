/** Feeds a text to the tape, for tests: in twenties, with the letter a behind it. */
final class Texts {
    private Texts() { }

    static void feed(SplitBehind x, String text) {
        StringBuilder all = new StringBuilder(text);
        while (all.length() % 20 != 0) all.append('a');
        for (int i = 0; i < all.length(); i += 20) {
            int[] five = fiveOf(all, i);
            x.feed(five[0], five[1], five[2], five[3], five[4]);
        }
    }

    static int[] fiveOf(CharSequence text, int from) {
        int[] five = new int[5];
        for (int j = 0; j < 20; j++) five[j / 4] = five[j / 4] << 8 | text.charAt(from + j);
        return five;
    }

    static int law(SplitBehind x, String text) {
        feed(x, text);
        return x.law(text.length());
    }

    static int work(SplitBehind x, String text) {
        feed(x, text);
        return x.work(text.length());
    }

    /** A new object of this shape and law, on which this work is done. */
    static SplitBehind made(int n, int c, int up, int down, int policy, String law, String work) {
        SplitBehind x = new SplitBehind();
        if (!x.shape(n, c, up, down, policy)) throw new IllegalArgumentException("shape");
        if (law(x, law) != 0) throw new IllegalArgumentException(law);
        if (!work.isEmpty() && work(x, work) < 0) throw new IllegalArgumentException(work);
        return x;
    }
}
