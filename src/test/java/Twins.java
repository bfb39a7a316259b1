import java.util.ArrayList;
import java.util.List;
import java.util.function.Consumer;
import java.util.function.Supplier;
import java.util.function.ToIntFunction;

/**
 * Two objects made alike: a call that changes nothing is made on one of them, and from then on both must answer alike,
 * whatever is asked. What is asked of them goes beyond 512 calls: their states are compared, not what is promised then.
 */
final class Twins {
    private static final int[] SOME_KEYS = {0, 1, 2, 7, 1000, 32768, 65535};

    private Twins() { }

    /** As a new object. */
    static SplitBehind fresh() {
        return new SplitBehind();
    }

    /** Some keys, scans at several places, something kept that is otherwise by now. */
    static SplitBehind middle() {
        SplitBehind x = Texts.made(2, 3, 80, 40, 1, "k*3", "n0,9,1;x3");
        x.scan();
        x.tell(0);
        x.keep();
        Texts.work(x, "p4,77;p900,1;d3;s;x2");
        x.scan();
        x.scan();
        x.tell(2);
        x.tell(2);
        x.ends(1);
        return x;
    }

    /** 300 keys, 64 buckets, four scans, kept. */
    static SplitBehind full() {
        SplitBehind x = Texts.made(1, 2, 300, 0, 1, "k", "n0,60,1;n60,60,1;n120,60,1;n180,60,1;n240,60,1");
        Sentences.splitUpTo(x, 64);
        for (int s = 0; s < 4; s++) x.scan();
        x.tell(1);
        x.keep();
        return x;
    }

    /** The call answers as is due and changes nothing at all. */
    static void unchanged(String what, Supplier<SplitBehind> made, String tape, ToIntFunction<SplitBehind> call, int want) {
        changed(what, made, tape, call, want, twin -> { }, tape);
    }

    /** The call answers as is due and changes but what another call on its twin changes; then the tape is as told. */
    static void changed(String what, Supplier<SplitBehind> made, String tape, ToIntFunction<SplitBehind> call, int want,
            Consumer<SplitBehind> likewise, String tapeThen) {
        SplitBehind one = made.get();
        SplitBehind twin = made.get();
        Texts.feed(one, tape);
        Texts.feed(twin, tape);
        Sentences.due(what, call.applyAsInt(one), want);
        likewise.accept(twin);
        Sentences.due(what + ": all else is as it was", all(one).equals(all(twin)), true);
        Sentences.due(what + ": the tape is as told", tapeIs(one, tapeThen), true);
    }

    private static List<Integer> all(SplitBehind x) {
        List<Integer> told = new ArrayList<>();
        ask(x, told);
        findAll(x, told);
        // the kept file, asked in the same way; the tape stays by that
        told.add(x.undo() ? 1 : 0);
        ask(x, told);
        findAll(x, told);
        return told;
    }

    private static void ask(SplitBehind x, List<Integer> told) {
        for (int i = 0; i < 5; i++) told.add(x.count(i));
        for (int i = 0; i < 17; i++) told.add(x.fileIs(i));
        for (int p = 0; p < 256; p++) {
            for (int what : new int[] {0, 1, 2, 10, 11, 12, 13, 14, 15}) told.add(x.page(p, what));
        }
        for (int b = 0; b < x.count(1); b++) {
            for (int page : Sentences.pagesOf(x, b)) told.add(page);
            for (int key : Sentences.keysOf(x, b)) told.add(key);
        }
        for (int key : Sentences.inOrderOf(x)) told.add(key);
        for (int key : SOME_KEYS) told.add(x.keyIs(key, 0));
        for (int s = 0; s < 4; s++) {
            for (int what = 0; what < 3; what++) told.add(x.scanIs(s, what));
        }
        for (int what = 0; what < 4; what++) told.add(x.since(what));
        for (int what = 0; what < 6; what++) told.add(x.grown(9, what));
        told.add(x.next(-1));
    }

    private static void findAll(SplitBehind x, List<Integer> told) {
        for (int key : Sentences.inOrderOf(x)) told.add(x.find(key));
    }

    /** Whether the tape has just these bytes (and the letters that Texts feeds behind them), told by a check. */
    private static boolean tapeIs(SplitBehind x, String text) {
        StringBuilder want = new StringBuilder(text);
        while (want.length() % 20 != 0) want.append('a');
        if (x.count(2) != want.length()) return false;
        int many = Math.min(300, want.length());
        x.shape(1, 6, 300, 0, 0);
        for (int key = 0; key < many; key++) x.put(key, 0);
        for (int i = 0; i < many; i++) x.put(x.inOrder(i), want.charAt(i));
        return x.check(many) == -1;
    }
}
