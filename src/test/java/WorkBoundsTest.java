import java.util.ArrayList;
import java.util.List;

/** "Terms" of work: its steps, their numbers and its faults, each at its bounds. */
public final class WorkBoundsTest extends Sentences {
    private static final String LETTERS = "pdgsjnxy";

    private static int told(String work) {
        return Texts.work(new SplitBehind(), work);
    }

    private static boolean isDigit(int b) {
        return b >= '0' && b <= '9';
    }

    /** A step up to a number, which may be low to high, and what must follow it. */
    private static void number(String ahead, int low, int high, String behind) {
        int at = -3000 - ahead.length();
        if (low > 0) due(ahead + (low - 1) + behind, told(ahead + (low - 1) + behind), at);
        due(ahead + low + behind, told(ahead + low + behind), 1);
        due(ahead + high + behind, told(ahead + high + behind), 1);
        due(ahead + (high + 1) + behind, told(ahead + (high + 1) + behind), at);
        String five = String.format("%05d", high);
        due(ahead + five + behind, told(ahead + five + behind), 1);
        due(ahead + "0" + five + behind, told(ahead + "0" + five + behind), -2000 - ahead.length() - 5);
        due("99999 in place of " + high, told(ahead + "99999" + behind), at);
        due("no digit behind " + ahead, told(ahead + "?"), -1000 - ahead.length());
        due("the end behind " + ahead, told(ahead), -1000 - ahead.length());
    }

    @Says(promise = 0, words = "WORK: a TEXT of at most 120 bytes, no blanks")
    static void hundredAndTwentyBytes() {
        String work = "p00001,001;".repeat(10) + "d00001;s;j";
        due("120 bytes", work.length(), 120);
        SplitBehind x = new SplitBehind();
        due("are done", Texts.work(x, work), 13);
        due("the last step, too", x.fileIs(16), 1);
        due("121 bytes", told(work + ";"), NONE);
        due("one byte", told("s"), 1);
        due("a blank ahead", told(" s"), -1000);
        due("a blank between", told("s; s"), -1002);
        due("a blank behind", told("s "), -1001);
        due("a blank in a number", told("d1 2"), -1002);
    }

    @Says(promise = 0, words = "STEPS with a ; (59) between two, 20 at most")
    static void twentySteps() {
        due("one", told("s"), 1);
        due("two", told("s" + (char) 59 + "s"), 2);
        due("19", told("s" + ";s".repeat(18)), 19);
        due("20", told("s" + ";s".repeat(19)), 20);
        due("21", told("s" + ";s".repeat(20)), -4040);
        due("no ; ahead", told(";s"), -1000);
        due("no ; behind", told("s;"), -1002);
        due("no two of them", told("s;;s"), -1002);
        due("none without", told("ss"), -1001);
        SplitBehind x = byHand(1, 2, "");
        Texts.work(x, "s" + ";s".repeat(19));
        due("all 20 are done", x.fileIs(15), 20);
        for (int b = 0; b < 256; b++) {
            due("behind s, byte " + b, told("s" + (char) b), b == ';' ? -1002 : -1001);
            int want = b == 's' || b == 'j' ? 1 : LETTERS.indexOf((char) b) >= 0 ? -1001 : -1000;
            due("a step of one byte, " + b, told("" + (char) b), want);
        }
    }

    @Says(promise = 0, words = "pK,V (PUT), dK (DROP), gK (FIND), s (SPLIT), j (JOIN)")
    static void plainSteps() {
        number("p", 0, 65535, ",0");
        number("p0,", 0, 255, "");
        number("d", 0, 65535, "");
        number("g", 0, 65535, "");
        for (int b = 0; b < 256; b++) {
            due("behind p5, byte " + b, told("p5" + (char) b), isDigit(b) || b == ',' ? -1003 : -1002);
            due("behind p5 and a comma, byte " + b, told("p5," + (char) b), isDigit(b) ? 1 : -1003);
            due("behind d, byte " + b, told("d" + (char) b), isDigit(b) ? 1 : -1001);
            due("behind g5, byte " + b, told("g5" + (char) b), isDigit(b) ? 1 : b == ';' ? -1003 : -1002);
        }
        SplitBehind x = byHand(1, 2, "p0,255;p65535,0;p7,1");
        due("put: the value 255", x.find(0), 255);
        due("put: the key 65535", x.find(65535), 0);
        dueRow("find costs reads", costOf(x, () -> Texts.work(x, "g7")), 2, 0);
        dueRow("find in the first page", costOf(x, () -> Texts.work(x, "g0;g65535")), 2, 0);
        dueRow("find of one that is not there", costOf(x, () -> Texts.work(x, "g1")), 2, 0);
        dueRow("drop", costOf(x, () -> Texts.work(x, "d65535")), 2, 2);
        due("65535 is gone", x.between(65535, 65535), 0);
        Texts.work(x, "s");
        due("split", x.count(1), 2);
        Texts.work(x, "j");
        due("join", x.count(1), 1);
        SplitBehind y = byHand(1, 2, "n0,9,7;n1,9,7;n2,9,7;n3,9,7;n4,9,7");
        y.shape(1, 2, 300, 0, 0);
        Texts.work(y, "j;s;g5;d5;j");
        due("steps have nothing of the steps that were before them", y.count(0), 0);
        due("one split", y.fileIs(15), 1);
        due("one join", y.fileIs(16), 1);
    }

    @Says(promise = 0, words = "nK,M,S (PUT of K, K + S, .. modulo 65536, M of them, M 1 to 60, S 0 to 9999; each with VALUE KEY modulo 256)")
    static void rows() {
        number("n", 0, 65535, ",1,1");
        number("n0,", 1, 60, ",1");
        number("n0,1,", 0, 9999, "");
        due("two numbers", told("n0,1"), -1004);
        due("two numbers and a comma", told("n0,1,"), -1005);
        due("four numbers", told("n0,1,1,1"), -1006);
        dueRow("M 1", keysOf(byHand(1, 6, "n300,1,9999"), 0), 300);
        due("M 60", byHand(1, 6, "n0,60,1").count(0), 60);
        dueRow("S 0: one key", keysOf(byHand(1, 6, "n9,60,0"), 0), 9);
        SplitBehind round = byHand(1, 6, "n65534,4,1");
        dueRow("round the end", keysOf(round, 0), 65534, 65535, 0, 1);
        SplitBehind far = byHand(1, 6, "n65535,3,9999");
        dueRow("round by 9999", keysOf(far, 0), 65535, 9998, 19997);
        due("the value of 9998", far.find(9998), 14);
        SplitBehind values = byHand(1, 6, "n255,3,1;n511,2,1");
        int[] keys = {255, 256, 257, 511, 512};
        int[] of = {255, 0, 1, 255, 0};
        for (int i = 0; i < 5; i++) due("the value of " + keys[i], values.find(keys[i]), of[i]);
        due("a row often round the end", byHand(1, 6, "n65535,60,9999").count(0), 60);
    }

    @Says(promise = 0, words = {"xM (PUT of M KEYS that are drawn, M 1 to 60, likewise)", "a KEY that is drawn is X"})
    static void drawn() {
        number("x", 1, 60, "");
        SplitBehind x = byHand(1, 6, "x1");
        dueRow("M 1", keysOf(x, 0), 39022);
        due("its value is the key's modulo 256", x.find(39022), 110);
        SplitBehind most = byHand(1, 6, "x60");
        due("M 60", most.count(0), 60);
        for (int i = 0; i < 60; i++) due("drawn " + i, most.bucket(0, 1000 + i), drawnBehind(1, i + 1));
        due("X is the last one", most.count(3), most.bucket(0, 1059));
    }

    @Says(promise = 0, words = "yM (DROP of M, each that which stands at place X modulo KEYS in order of SCANS).")
    static void drawnDrops() {
        number("y", 1, 60, "");
        SplitBehind x = byHand(2, 3, "n0,9,1");
        List<Integer> order = new ArrayList<>(List.of(0, 8, 4, 2, 6, 1, 5, 3, 7));
        for (int i = 1; i <= 9; i++) {
            order.remove(drawnBehind(1, i) % order.size());
            due("y1", Texts.work(x, "y1"), 1);
            dueRow("what is left", inOrderOf(x), order.stream().mapToInt(k -> k).toArray());
        }
        SplitBehind all = byHand(2, 3, "n0,60,1");
        Texts.work(all, "y59");
        due("M 59 of 60", all.count(0), 1);
        Texts.work(all, "y60");
        due("M 60 of 1", all.count(0), 0);
        due("X goes on all the same", all.count(3), drawnBehind(1, 119));
    }

    @Says(promise = 0, words = "X = (25173 X + 13849) modulo 65536 (THE SEED at first, 1)")
    static void drawing() {
        SplitBehind x = new SplitBehind();
        due("at first", x.count(3), 1);
        int[][] next = {{0, 13849}, {1, 39022}, {65535, 54212}, {32768, 46617}, {2, 64195}, {3, 23832}};
        for (int[] n : next) {
            x.seed(n[0]);
            Texts.work(x, "x1");
            due("behind " + n[0], x.count(3), n[1]);
            x.drop(n[1]);
        }
    }

    @Says(promise = 0, words = {"A STEP that can't be done (PUT of a 301st KEY, SPLIT of 64, JOIN of N BUCKETS, DROP without KEYS) does nothing",
        "X goes on."})
    static void cantBeDone() {
        SplitBehind full = byHand(1, 2, ALL_300);
        dueRow("p of a 301st", costOf(full, () -> Texts.work(full, "p300,1")), 0, 0);
        dueRow("n of a 301st to a 360th", costOf(full, () -> Texts.work(full, "n300,60,1")), 0, 0);
        dueRow("x of a 301st", costOf(full, () -> Texts.work(full, "x60")), 0, 0);
        due("300 stay", full.count(0), 300);
        due("X went on", full.count(3), drawnBehind(1, 60));
        due("steps count that can't be done", Texts.work(full, "p300,1;x1;j;s"), 4);
        due("and those behind them are done", full.count(1), 2);
        Texts.work(full, "d7;n6,3,1");
        due("of a row what is there and what has room", full.count(0), 300);
        Texts.work(full, "p0,200;n0,1,1;n298,9,1");
        due("what is there gets its value", full.find(0), 0);
        due("the row's end can't be done", full.between(300, 65535), 0);
        SplitBehind last = byHand(1, 2, "n0,60,1;n60,60,1;n120,60,1;n180,60,1;n240,59,1;x2");
        due("x2 at 299: one", last.count(0), 300);
        due("the first of both", last.between(39022, 39022), 1);
        due("X went on twice", last.count(3), drawnBehind(1, 2));
        splitUpTo(last, 64);
        dueRow("s of 64", costOf(last, () -> Texts.work(last, "s;s")), 0, 0);
        due("64 stay", last.count(1), 64);
        SplitBehind few = byHand(2, 2, "");
        dueRow("j of N", costOf(few, () -> Texts.work(few, "j;j")), 0, 0);
        due("N stay", few.count(1), 2);
        due("no joins", few.fileIs(16), 0);
        dueRow("y without keys", costOf(few, () -> Texts.work(few, "y60")), 0, 0);
        due("X goes on", few.count(3), drawnBehind(1, 60));
        Texts.work(few, "y3;p5,9;j");
        due("what stands behind it is done", few.find(5), 9);
    }

    @Says(promise = 0, words = {"NUMBERS are of one to five digits.", "FAULTS likewise: 1; 2 a sixth digit, at it"})
    static void digits() {
        for (String one : new String[] {"1", "01", "001", "0001", "00001"}) due("d" + one, told("d" + one), 1);
        due("d000001", told("d000001"), -2006);
        due("p of six", told("p000001,1"), -2006);
        due("V of six", told("p1,000001"), -2008);
        due("K of n of six", told("n000001,1,1"), -2006);
        due("M of six", told("n1,000001,1"), -2008);
        due("S of six", told("n1,1,000001"), -2010);
        due("x of six", told("x000001"), -2006);
        due("y of six", told("y000001"), -2006);
        due("g of six", told("g000001"), -2006);
        due("six ahead of too great", told("x999999"), -2006);
        due("no digit for K", told("p,1"), -1001);
        due("no digit for V", told("p1,;s"), -1003);
        due("a letter for a digit", told("dk"), -1001);
    }

    @Says(promise = 0, words = "3 a NUMBER that is none of those told, at its first digit, asked when it ends")
    static void noSuchNumber() {
        due("ends with the text", told("p65536"), -3001);
        due("ends with a comma", told("p65536,256"), -3001);
        due("ends with what can't stand there", told("p0,256x"), -3003);
        due("has not ended", told("p655360"), -2006);
        due("in a later step", told("s;s;x61"), -3005);
        due("x0 ends with ;", told("x0;s"), -3001);
        due("00000 is 0", told("x00000"), -3001);
        due("the first of three", told("n65536,61,10000"), -3001);
        due("the second ahead of the third", told("n65535,61,10000"), -3007);
        due("1 ahead of 3", told("q;x0"), -1000);
        due("3 ahead of 1", told("x0;q"), -3001);
    }

    @Says(promise = 0, words = "4 a 21st STEP, at its letter (whatever stands there).")
    static void twentyFirst() {
        String twenty = "s" + ";s".repeat(19);
        for (int b = 0; b < 256; b++) due("a 21st of byte " + b, told(twenty + ";" + (char) b), -4040);
        due("the end, too", told(twenty + ";"), -4040);
        due("at its letter, wherever that is", told("d1;" + twenty), -4041);
        due("what stands behind 20 without ; is no step", told(twenty + "s"), -1039);
        due("a fault ahead of it", told("q;" + twenty), -1000);
        due("a fault in the 20th", told("s;".repeat(19) + "x0;s"), -3039);
        due("a fault behind it comes too late", told(twenty + ";s;q"), -4040);
        due("20 are fine", told(twenty), 20);
    }

    public static void main(String[] args) throws IllegalAccessException {
        runAll(WorkBoundsTest.class);
    }
}
