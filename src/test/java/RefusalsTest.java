import java.util.List;
import java.util.function.Supplier;
import java.util.function.ToIntFunction;

/** Each call that is refused: its answer, that it changes nothing but what is told, and which refusal comes first. */
public final class RefusalsTest extends Sentences {
    private static final String REFUSED = "A call that is refused (NONE, -2 to -9, false) changes nothing but the tape, where it is told.";
    private static final String TAPE = "k*7+1;s;p0,5;x9;j;some more bytes";

    private static final List<Supplier<SplitBehind>> STATES = List.of(Twins::fresh, Twins::middle, Twins::full);

    private static Supplier<SplitBehind> state = Twins::fresh;

    private static void no(String what, ToIntFunction<SplitBehind> call, int want) {
        Twins.unchanged(what, state, TAPE, call, want);
    }

    private static void no(String what, ToIntFunction<SplitBehind> call) {
        no(what, call, NONE);
    }

    /** Numbers outside of low to high. */
    private static int[] outside(int low, int high) {
        return new int[] {Integer.MIN_VALUE, low - 1, high + 1, Integer.MAX_VALUE};
    }

    private static void changesThatAreRefusedAlways() {
        for (int n : outside(1, 4)) no("shape, N " + n, x -> asInt(x.shape(n, 3, 80, 40, 1)), 0);
        for (int c : outside(2, 6)) no("shape, C " + c, x -> asInt(x.shape(2, c, 80, 40, 1)), 0);
        for (int up : outside(50, 300)) no("shape, UP " + up, x -> asInt(x.shape(2, 3, up, 40, 1)), 0);
        for (int down : outside(0, 49)) no("shape, DOWN " + down, x -> asInt(x.shape(2, 3, 80, down, 1)), 0);
        for (int policy : outside(0, 2)) no("shape, POLICY " + policy, x -> asInt(x.shape(2, 3, 80, 40, policy)), 0);
        // the tape has 40
        for (int n : new int[] {Integer.MIN_VALUE, -1, 0, 41, 60, 61, Integer.MAX_VALUE}) no("law, n " + n, x -> x.law(n));
        for (int n : new int[] {Integer.MIN_VALUE, -1, 0, 41, 120, 121, Integer.MAX_VALUE}) no("work, n " + n, x -> x.work(n));
        for (int n : new int[] {Integer.MIN_VALUE, -1, 41, 300, 301, Integer.MAX_VALUE}) no("check, n " + n, x -> x.check(n), -2);
        for (int key : outside(0, 65535)) {
            no("put of " + key, x -> x.put(key, 0));
            no("find of " + key, x -> x.find(key));
            no("drop of " + key, x -> x.drop(key));
            no("seed " + key, x -> asInt(x.seed(key)), 0);
        }
        for (int value : outside(0, 255)) {
            no("put of the value " + value, x -> x.put(0, value));
            no("put of the value " + value + " and a new key", x -> x.put(5555, value));
        }
        for (int s : outside(0, 3)) {
            no("tell " + s, x -> x.tell(s));
            no("ends " + s, x -> x.ends(s));
            no("scanIs " + s, x -> x.scanIs(s, 0));
            no("reach " + s, x -> x.reach(s));
        }
    }

    private static void asksThatAreRefusedAlways() {
        for (int what : outside(0, 16)) no("fileIs " + what, x -> x.fileIs(what));
        for (int what : outside(0, 4)) no("keyIs, what " + what, x -> x.keyIs(5, what));
        for (int key : outside(0, 65535)) {
            no("keyIs of " + key, x -> x.keyIs(key, 0));
            no("where of " + key, x -> x.where(key, 64));
            no("parted of " + key, x -> x.parted(key, 1));
            no("parted from " + key, x -> x.parted(1, key));
            no("passed from " + key, x -> x.passed(key));
            no("between from " + key, x -> x.between(key, 65535));
            no("between to " + key, x -> x.between(0, key));
            no("bits from " + key, x -> x.bits(key, 0, 0));
        }
        for (int b : new int[] {Integer.MIN_VALUE, -1, 0, 65, Integer.MAX_VALUE}) {
            no("where in " + b, x -> x.where(1, b));
            no("anew in " + b, x -> x.anew(b, 0));
        }
        for (int bucket : outside(0, 63)) {
            no("bucket " + bucket, x -> x.bucket(bucket, 0));
            no("signs of " + bucket, x -> x.signs(bucket));
        }
        for (int what : new int[] {Integer.MIN_VALUE, -1, 2, 99}) no("bucket, what " + what, x -> x.bucket(0, what));
        for (int page : outside(0, 255)) no("page " + page, x -> x.page(page, 0));
        for (int what : new int[] {Integer.MIN_VALUE, -1, 3, 9, 16, Integer.MAX_VALUE}) no("page, what " + what, x -> x.page(0, what));
        for (int many : outside(1, 150)) {
            no("chains of " + many, x -> x.chains(many));
            no("costing " + many, x -> x.costing(many));
        }
        for (int what : outside(0, 2)) {
            no("finds, what " + what, x -> x.finds(what));
            no("alike, what " + what, x -> x.alike(what));
            no("scanIs, what " + what, x -> x.scanIs(0, what));
        }
        for (int what : outside(0, 1)) {
            no("tuned, what " + what, x -> x.tuned(what));
            no("torn, kind " + what, x -> x.torn(what, 0, 0));
            no("torn, what " + what, x -> x.torn(0, 0, what));
        }
    }

    private static void moreAsksThatAreRefusedAlways() {
        no("torn, w -1", x -> x.torn(0, -1, 0));
        no("torn, the least w", x -> x.torn(1, Integer.MIN_VALUE, 1));
        for (int i : new int[] {Integer.MIN_VALUE, -2}) no("next " + i, x -> x.next(i), -9);
        for (int key : new int[] {0, 65535}) no("parted of like ones", x -> x.parted(key, key));
        for (int keys : outside(1, 300)) no("enough for " + keys, x -> x.enough(keys));
        for (int what : outside(0, 3)) {
            no("anew, what " + what, x -> x.anew(10, what));
            no("since, what " + what, x -> x.since(what));
        }
        for (int m : outside(1, 99)) no("grown by " + m, x -> x.grown(m, 0));
        for (int what : outside(0, 5)) no("grown, what " + what, x -> x.grown(1, what));
        for (int i : new int[] {Integer.MIN_VALUE, -1}) no("inOrder " + i, x -> x.inOrder(i));
        no("inOrder beyond all", x -> x.inOrder(300), -4);
        no("between, the first is greater", x -> x.between(1, 0));
        for (int i : outside(0, 15)) no("bits, bit " + i, x -> x.bits(0, i, 0));
        for (int what : outside(0, 16)) no("bits, what " + what, x -> x.bits(0, 0, what));
        for (int what : outside(0, 4)) no("count " + what, x -> x.count(what));
    }

    private static void refusedAlways(Supplier<SplitBehind> made) {
        state = made;
        changesThatAreRefusedAlways();
        asksThatAreRefusedAlways();
        moreAsksThatAreRefusedAlways();
    }

    @Says(promise = 0, words = REFUSED)
    static void ofANewObject() {
        refusedAlways(Twins::fresh);
        no("join of N", x -> x.join(), -3);
        no("undo", x -> asInt(x.undo()), 0);
        for (int what = 0; what <= 3; what++) {
            int w = what;
            no("since, what " + w, x -> x.since(w), -3);
        }
        for (int s = 0; s <= 3; s++) {
            int n = s;
            no("tell " + n, x -> x.tell(n));
            no("ends " + n, x -> x.ends(n));
            no("scanIs " + n, x -> x.scanIs(n, 0));
            no("reach " + n, x -> x.reach(n));
        }
        no("alike 1", x -> x.alike(1), -2);
        no("inOrder 0", x -> x.inOrder(0), -4);
        no("next 0", x -> x.next(0), -4);
        no("page 1 of a chain of one", x -> x.bucket(0, 101), -4);
        no("key 0 of a bucket without", x -> x.bucket(0, 1000), -4);
        no("key 0 of a page without", x -> x.page(0, 10), -4);
        no("a free page", x -> x.page(2, 0), -2);
        no("torn behind 3", x -> x.torn(0, 3, 0), -4);
        no("parted never", x -> x.parted(0, 64), -2);
    }

    @Says(promise = 0, words = REFUSED)
    static void inTheMiddle() {
        refusedAlways(Twins::middle);
        no("scan 1 ended", x -> x.tell(1));
        no("scan 1 ended, ends", x -> x.ends(1));
        no("inOrder behind the last one", x -> x.inOrder(x.count(0)), -4);
        no("next behind the last one", x -> x.next(x.next(NONE)), -4);
        no("a key behind the last one", x -> x.bucket(0, 1000 + x.bucket(0, 0)), -4);
        no("a page behind the last one", x -> x.bucket(0, 100 + x.bucket(0, 1)), -4);
        no("a free page", x -> x.page(255, 15), -2);
        no("torn behind 99", x -> x.torn(1, 99, 1), -4);
        no("bucket behind the last one", x -> x.bucket(x.count(1), 0));
        no("signs behind the last one", x -> x.signs(x.count(1)));
    }

    @Says(promise = 0, words = REFUSED)
    static void ofAFullFile() {
        refusedAlways(Twins::full);
        no("a 301st", x -> x.put(300, 1), -3);
        no("the last 301st", x -> x.put(65535, 255), -3);
        no("a 65th", x -> x.split(), -3);
        no("a fifth scan", x -> x.scan(), -3);
        no("keyIs 4", x -> x.keyIs(1, 4), -3);
        no("next", x -> x.next(NONE), -3);
        no("next 0", x -> x.next(0), -3);
        no("torn", x -> x.torn(0, 0, 0), -3);
        no("enough never", x -> x.enough(1), -2);
    }

    @Says(promise = 0, words = REFUSED)
    static void tellThatHasNoneMore() {
        state = () -> {
            SplitBehind x = Twins.middle();
            for (int i = 0; i < 300 && x.tell(0) >= 0; i++) x.tell(2);
            return x;
        };
        no("none more", x -> x.tell(0), -2);
        no("none more, twice", x -> x.tell(0) + x.tell(0), -4);
    }

    @Says(promise = 0, words = REFUSED)
    static void feedOfAFullTape() {
        String tape = "0123456789abcdefghij".repeat(16);
        for (Supplier<SplitBehind> made : STATES) {
            Twins.unchanged("feed", made, tape, x -> x.feed(1, 2, 3, 4, 5), NONE);
            Twins.unchanged("law beyond 60", made, tape, x -> x.law(61), NONE);
            Twins.unchanged("work beyond 120", made, tape, x -> x.work(121), NONE);
            Twins.unchanged("check beyond 300", made, tape, x -> x.check(301), -2);
        }
    }

    @Says(promise = 4, words = {"(the one before stays)", "(asked ahead of FAULTS; the tape is empty then)"})
    static void lawEmptiesTheTapeAlone() {
        Twins.changed("a fault", Twins::fresh, "k)", x -> x.law(2), -1001, y -> y.check(0), "");
        Twins.changed("a fault at the end", Twins::fresh, "k+", x -> x.law(2), -1002, y -> y.check(0), "");
        Twins.changed("keys, a right law", Twins::middle, "k+9", x -> x.law(3), -3, y -> y.check(0), "");
        Twins.changed("keys, a fault", Twins::middle, "+", x -> x.law(1), -3, y -> y.check(0), "");
        Twins.changed("300 keys", Twins::full, "k", x -> x.law(1), -3, y -> y.check(0), "");
    }

    @Says(promise = 5, words = "a FAULT (nothing is done)")
    static void workWithAFaultEmptiesTheTapeAlone() {
        String[] works = {"p1,1;x5;y2;s;j;q", "x5;p0,256", "s;d000000", "s;", "y60;p1", "n0,60,1;n0,61,1"};
        int[] faults = {-1015, -3006, -2008, -1002, -1006, -3011};
        for (int i = 0; i < works.length; i++) {
            String work = works[i];
            for (Supplier<SplitBehind> made : STATES) {
                Twins.changed(work, made, work, x -> x.work(work.length()), faults[i], y -> y.check(0), "");
            }
        }
    }

    @Says(promise = 7, words = "-2: it is not there")
    static void findOfNoneCountsReadsAlone() {
        Twins.changed("find", Twins::fresh, TAPE, x -> x.find(5), -2, y -> y.drop(5), TAPE);
        Twins.changed("find", Twins::middle, TAPE, x -> x.find(5555), -2, y -> y.drop(5555), TAPE);
        Twins.changed("find", Twins::full, TAPE, x -> x.find(300), -2, y -> y.drop(300), TAPE);
    }

    @Says(promise = 8, words = "-2: it is not there (READS count)")
    static void dropOfNoneCountsReadsAlone() {
        for (int key : new int[] {3, 5555, 65535}) {
            Twins.changed("drop", Twins::fresh, TAPE, x -> x.drop(key), -2, y -> y.find(key), TAPE);
            Twins.changed("drop", Twins::middle, TAPE, x -> x.drop(key), -2, y -> y.find(key), TAPE);
        }
        Twins.changed("drop", Twins::full, TAPE, x -> x.drop(300), -2, y -> y.find(300), TAPE);
    }

    @Says(promise = 41, words = {"(0 to 300; empty then)", "else the first that is not so"})
    static void checkEmptiesTheTapeAlone() {
        String tape = "0123456789abcdefghij";
        Twins.changed("the first one", Twins::fresh, tape, x -> x.check(1), 0, y -> y.check(0), "");
        Twins.changed("right", Twins::fresh, tape, x -> x.check(0), NONE, y -> y.check(1), "");
        Twins.changed("not so", Twins::middle, tape, x -> x.check(20), 0, y -> y.check(0), "");
        Twins.changed("not so, of 300", Twins::full, tape, x -> x.check(20), 0, y -> y.check(0), "");
    }

    @Says(promise = 0, words = "Of several reasons NONE comes first.")
    static void noneComesFirst() {
        state = Twins::full;
        no("put: 300 and no such value", x -> x.put(300, 256));
        no("put: 300 and no such value below", x -> x.put(300, -1));
        no("put: 300 and no such key", x -> x.put(65536, 0));
        no("law: keys and n 0", x -> x.law(0));
        no("law: keys and n beyond the tape", x -> x.law(41));
        no("keyIs: 64 and no such key", x -> x.keyIs(65536, 4));
        no("keyIs: 64 and no such what", x -> x.keyIs(1, 5));
        no("torn: 64 and no such kind", x -> x.torn(2, 0, 0));
        no("torn: 64 and w below 0", x -> x.torn(0, -1, 0));
        no("torn: 64 and no such what", x -> x.torn(0, 0, 2));
        no("torn: 64, not so many and no such what", x -> x.torn(0, 9999, -1));
        no("torn: 64 ahead of not so many", x -> x.torn(0, 9999, 1), -3);
        no("next: no such i ahead of 64", x -> x.next(-2), -9);
        no("next: 64 ahead of not so many", x -> x.next(9999), -3);
        no("enough: not by 64 and no such number", x -> x.enough(0));
        no("bucket: no such bucket and not so many", x -> x.bucket(64, 1000));
        no("page: no such page, and place 5", x -> x.page(256, 15));
        no("page: free and no such what", x -> x.page(255, 16));
        no("page: free ahead of not so many", x -> x.page(255, 15), -2);
        no("scanIs: none told and no such what", x -> x.scanIs(0, 3));
        state = Twins::fresh;
        no("since: nothing kept and no such what", x -> x.since(4));
        no("since: nothing kept and no such what below", x -> x.since(-1));
        no("alike: no keys and no such what", x -> x.alike(3));
        no("inOrder: no keys and below 0", x -> x.inOrder(-1));
        no("tell: no keys and not open", x -> x.tell(0));
        no("scanIs: not open and no such what", x -> x.scanIs(0, 3));
        no("parted: never and like ones", x -> x.parted(7, 7));
        no("find: not there and no such key", x -> x.find(-1));
        no("drop: not there and no such key", x -> x.drop(65536));
        no("check: no such n and not so many", x -> x.check(301), -2);
    }

    public static void main(String[] args) throws IllegalAccessException {
        runAll(RefusalsTest.class);
    }
}
