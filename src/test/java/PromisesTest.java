/** Each promise with answers reckoned by hand from the document: the ordinary, the edges, the wrong. */
public final class PromisesTest {
    private static final int NONE = -1;
    private static int wrong = 0;
    private static int asked = 0;

    private static void due(int promise, String what, int got, int want) {
        asked++;
        if (got != want) {
            wrong++;
            System.out.println("promise " + promise + ", " + what + ": answered " + got + ", due is " + want);
        }
    }

    private static void due(int promise, String what, boolean got, boolean want) {
        due(promise, what, got ? 1 : 0, want ? 1 : 0);
    }

    /** One bucket by hand, two keys a page, the law k. */
    private static SplitBehind byHand(String work) {
        return Texts.made(1, 2, 300, 0, 0, "k", work);
    }

    private static int hash(String law, int key) {
        SplitBehind x = new SplitBehind();
        int answer = Texts.law(x, law);
        return answer != 0 ? answer : x.keyIs(key, 0);
    }

    private static int lawFault(String law) {
        return Texts.law(new SplitBehind(), law);
    }

    private static int workFault(String work) {
        return Texts.work(new SplitBehind(), work);
    }

    private static void p01() {
        SplitBehind x = new SplitBehind();
        int[] at = {2, 3, 80, 40, 1, 0, 0, 2, 0, 2, 0, 0, 0, 1, 2, 0, 0};
        for (int i = 0; i < at.length; i++) due(1, "fileIs(" + i + ")", x.fileIs(i), at[i]);
        int[] counts = {0, 2, 0, 1, 0};
        for (int i = 0; i < counts.length; i++) due(1, "count(" + i + ")", x.count(i), counts[i]);
        due(1, "the law is k", x.keyIs(54321, 0), 54321);
        due(1, "nothing kept", x.undo(), false);
        due(1, "NONE", SplitBehind.NONE, -1);
    }

    private static void p02() {
        SplitBehind x = new SplitBehind();
        for (int i = 1; i <= 16; i++) due(2, "feed " + i, x.feed(i, -1, 0, 7, Integer.MIN_VALUE), 20 * i);
        due(2, "a 17th", x.feed(0, 0, 0, 0, 0), NONE);
        due(2, "320 bytes stay", x.count(2), 320);
        SplitBehind y = new SplitBehind();
        Texts.work(y, "p1,255;p3,128;p5,7");
        due(2, "bytes come behind", y.feed(0x0100FF80, 0, 0, 0, 0x07000000), 20);
        due(2, "they go on", y.feed(0, 0, 0, 0, 0), 40);
        due(2, "the highest first", y.check(3), 0);
        y.feed(0xFF070000, 0, 0, 0, 0);
        // order of 1, 3, 5 by 2 buckets: 1 (0), 5 (2: 010..), 3 (1: 100..)
        due(2, "bytes 128 and more are not below 0", y.check(2), NONE);
        y.feed(0xFF078000, 0, 0, 0, 0);
        due(2, "all four of an int", y.check(3), NONE);
    }

    private static void p03() {
        SplitBehind x = new SplitBehind();
        Texts.law(x, "k+1");
        Texts.work(x, "n0,9,1;s;x1");
        x.scan();
        int drawn = x.count(3);
        int[][] no = {{0, 3, 80, 40, 1}, {5, 3, 80, 40, 1}, {2, 1, 80, 40, 1}, {2, 7, 80, 40, 1}, {2, 3, 49, 40, 1},
            {2, 3, 301, 40, 1}, {2, 3, 80, -1, 1}, {2, 3, 80, 50, 1}, {2, 3, 80, 40, -1}, {2, 3, 80, 40, 3}};
        for (int[] s : no) due(3, java.util.Arrays.toString(s), x.shape(s[0], s[1], s[2], s[3], s[4]), false);
        due(3, "refused, keys stay", x.count(0), 10);
        due(3, "refused, scans stay", x.count(4), 1);
        due(3, "least ones", x.shape(1, 2, 50, 0, 0), true);
        due(3, "most ones", x.shape(4, 6, 300, 49, 2), true);
        int[] at = {4, 6, 300, 49, 2, 0, 0, 4, 0, 4, 0, 0, 0, 1, 4, 0, 0};
        for (int i = 0; i < at.length; i++) due(3, "fileIs(" + i + ")", x.fileIs(i), at[i]);
        due(3, "no scans", x.count(4), 0);
        due(3, "X stays", x.count(3), drawn);
        due(3, "the law stays", x.keyIs(1, 0), 2);
        for (int b = 0; b < 4; b++) due(3, "bucket " + b + " has page " + b, x.bucket(b, 100), b);
    }

    private static void p04Hashes() {
        due(4, "k", hash("k", 65535), 65535);
        due(4, "from the left on", hash("2+3*k", 10), 50);
        due(4, "brackets", hash("2+(3*k)", 10), 32);
        due(4, "below 0", hash("k-3", 1), 65534);
        due(4, "times wraps", hash("k*k", 65535), 1);
        due(4, "by cuts", hash("k/7", 20), 2);
        due(4, "by 0", hash("k/0", 20), 0);
        due(4, "modulo", hash("k%7", 20), 6);
        due(4, "modulo 0", hash("k%(k-k)", 20), 0);
        due(4, "one of both bits", hash("k^12", 10), 6);
        due(4, "both bits", hash("k&12", 10), 8);
        due(4, "any bit", hash("k|12", 10), 14);
        due(4, "turned", hash("~k", 1), 65534);
        due(4, "turned binds its part", hash("~k+1", 1), 65535);
        due(4, "turned bracket", hash("~(k+1)", 1), 65533);
        due(4, "round by 1", hash("<1k", 0x8001), 3);
        due(4, "round by 9", hash("<9k", 0x0081), 0x0201);
        due(4, "reverse", hash("rk", 0x8001), 0x8001);
        due(4, "reverse of 6", hash("rk", 6), 0x6000);
        due(4, "all of them", hash("~<4r(k&15)", 1), 65535 - 8);
        due(4, "signs of 60 bytes", hash("k+k+k+k+k+k+k+k+k+k+k+k+k+k+k+k+k+k+k+k+k+k+k+k+k+k+k+k+k+11", 1), 40);
        due(4, "eight values at once", hash("1+(2+(3+(4+(5+(6+(7+k))))))", 8), 36);
        due(4, "zeros ahead", hash("00007", 8), 7);
        due(4, "the highest number", hash("65535", 8), 65535);
    }

    private static void p04Faults() {
        due(4, "the end", lawFault("k+"), -1002);
        due(4, "an open bracket", lawFault("(k"), -1002);
        due(4, "a bracket too much", lawFault("k)"), -1001);
        due(4, "a sign ahead", lawFault("+k"), -1000);
        due(4, "a blank", lawFault("k +1"), -1001);
        due(4, "a letter", lawFault("K"), -1000);
        due(4, "empty brackets", lawFault("()"), -1001);
        due(4, "two parts", lawFault("kk"), -1001);
        due(4, "a number behind k", lawFault("k1"), -1001);
        due(4, "a sixth digit", lawFault("k+000001"), -2007);
        due(4, "a sixth digit of a number that is too great", lawFault("999999"), -2005);
        due(4, "too great, at the end", lawFault("k*65536"), -3002);
        due(4, "too great, ahead of what stands behind", lawFault("99999x"), -3000);
        due(4, "D 0", lawFault("~<0k"), -3002);
        due(4, "no D", lawFault("<k"), -1001);
        due(4, "D at the end", lawFault("k+<"), -1003);
        due(4, "no part behind D", lawFault("<3"), -1002);
        due(4, "a seventh that is open", lawFault("(~<1r(~(k"), -5007);
        due(4, "six open", lawFault("(~<1r(~k))"), 0);
        due(4, "open and closed again", lawFault("~k+~k+~k+~k+~k+~k+~k"), 0);
        due(4, "closed by the part's end", lawFault("((((((k)+~k"), -1011);
        due(4, "a bracket behind a part is none", lawFault("((((((k("), -1007);
        due(4, "a byte above 127", lawFault("k" + (char) 200), -1001);
    }

    private static void p04State() {
        SplitBehind x = new SplitBehind();
        Texts.feed(x, "k+5");
        due(4, "n 0", x.law(0), NONE);
        due(4, "n below 0", x.law(-1), NONE);
        due(4, "n beyond the tape", x.law(21), NONE);
        due(4, "the tape stays", x.count(2), 20);
        due(4, "as told", x.law(3), 0);
        due(4, "the tape is empty", x.count(2), 0);
        due(4, "in force", x.keyIs(1, 0), 6);
        Texts.feed(x, "k+".repeat(40));
        due(4, "n 61", x.law(61), NONE);
        due(4, "n 60 is read", x.law(60), -1060);
        due(4, "a fault empties the tape", x.count(2), 0);
        due(4, "the one before stays", x.keyIs(1, 0), 6);
        x.put(1, 1);
        Texts.feed(x, "+++");
        due(4, "there are keys, ahead of faults", x.law(3), -3);
        due(4, "the tape is empty then, too", x.count(2), 0);
        due(4, "NONE ahead of -3", x.law(1), NONE);
        x.drop(1);
        due(4, "no keys any more", Texts.law(x, "k"), 0);
    }

    private static void p05Done() {
        SplitBehind x = byHand("n0,7,1");
        due(5, "n: seven keys", x.count(0), 7);
        due(5, "n: reads", x.fileIs(11), 13);
        due(5, "n: writes", x.fileIs(12), 10);
        due(5, "s and j and g", Texts.work(x, "s;j;g3;g99"), 4);
        // the split reads 4, writes 4; the join reads 4, writes 4; then 0 2 4 6 1 3 5: key 3 in page 2, 99 costs 4
        due(5, "reads", x.fileIs(11), 13 + 4 + 4 + 3 + 4);
        due(5, "writes", x.fileIs(12), 10 + 4 + 4);
        due(5, "d of a key that is not there counts reads", Texts.work(x, "d99"), 1);
        due(5, "reads then", x.fileIs(11), 32);
        due(5, "p and d", Texts.work(x, "p9,77;p9,78;d0"), 3);
        due(5, "the value", x.find(9), 78);
        due(5, "dropped", x.find(0), -2);
        SplitBehind y = byHand("n65530,3,5");
        due(5, "n goes round", y.between(0, 4), 1);
        due(5, "value by modulo", y.find(65535), 255);
        due(5, "n with S 0", Texts.work(y, "n8,60,0"), 1);
        due(5, "is one key", y.count(0), 4);
        SplitBehind z = byHand("x2");
        // X: 1, 25173 + 13849 = 39022, then 25173 * 39022 + 13849 modulo 65536
        int second = (int) ((25173L * 39022 + 13849) % 65536);
        due(5, "x draws", z.find(39022), 39022 % 256);
        due(5, "x draws again", z.find(second), second % 256);
        due(5, "X", z.count(3), second);
        int third = (int) ((25173L * second + 13849) % 65536);
        int there = z.inOrder(third % 2);
        Texts.work(z, "y1");
        due(5, "y drops by place", z.find(there), -2);
        due(5, "y drops one", z.count(0), 1);
        int before = z.count(3);
        Texts.work(z, "y3");
        due(5, "y without keys does nothing", z.count(0), 0);
        int after = before;
        for (int i = 0; i < 3; i++) after = (int) ((25173L * after + 13849) % 65536);
        due(5, "but X goes on", z.count(3), after);
        due(5, "j of N buckets, twenty steps", Texts.work(z, "j" + ";j".repeat(19)), 20);
        due(5, "does nothing", z.fileIs(16), 0);
    }

    private static void p05Full() {
        SplitBehind x = byHand("n0,60,1;n60,60,1;n120,60,1;n180,60,1;n240,60,1");
        due(5, "300", x.count(0), 300);
        int reads = x.fileIs(11);
        int drawn = x.count(3);
        Texts.work(x, "p300,1;n301,60,1;x1");
        due(5, "a 301st is not put", x.count(0), 300);
        due(5, "and costs nothing", x.fileIs(11), reads);
        due(5, "but X goes on", x.count(3), (25173 * drawn + 13849) & 65535);
        Texts.work(x, "p299,9");
        due(5, "one that is there is put", x.fileIs(11), reads + 150);
        for (int i = 0; i < 4; i++) Texts.work(x, "s" + ";s".repeat(19));
        due(5, "s of 64 does nothing", x.count(1), 64);
        due(5, "63 splits", x.fileIs(15), 63);
    }

    private static void p05Faults() {
        due(5, "no letter", workFault("a"), -1000);
        due(5, "a number first", workFault("1"), -1000);
        due(5, "s with a number", workFault("s1"), -1001);
        due(5, "the end for a number", workFault("d"), -1001);
        due(5, "the end for a comma", workFault("p1"), -1002);
        due(5, "the end for V", workFault("p1,"), -1003);
        due(5, "the end for a step", workFault("s;"), -1002);
        due(5, "two ;", workFault("s;;s"), -1002);
        due(5, "a blank", workFault("s; s"), -1002);
        due(5, "a sixth digit", workFault("g000001"), -2006);
        due(5, "K too great", workFault("g65536"), -3001);
        due(5, "V too great, ahead of what stands behind", workFault("p1,256x"), -3003);
        due(5, "M 0", workFault("x0"), -3001);
        due(5, "M 61", workFault("y61"), -3001);
        due(5, "M 61 of n", workFault("n1,61,1"), -3003);
        due(5, "S 10000", workFault("n1,60,10000"), -3006);
        due(5, "the greatest ones", workFault("n65535,60,9999"), 1);
        due(5, "one number too much", workFault("x1,1"), -1002);
        due(5, "twenty", workFault("s" + ";s".repeat(19)), 20);
        due(5, "a 21st", workFault("s" + ";s".repeat(19) + ";s"), -4040);
        due(5, "whatever stands there", workFault("s" + ";s".repeat(19) + ";!"), -4040);
        SplitBehind x = new SplitBehind();
        due(5, "a fault at the end", Texts.work(x, "p1,1;s;x5;q"), -1010);
        due(5, "nothing is done", x.count(0) + x.fileIs(15), 0);
        due(5, "X does not go on", x.count(3), 1);
        due(5, "the tape is empty", x.count(2), 0);
        Texts.feed(x, "s");
        due(5, "n 0", x.work(0), NONE);
        due(5, "n beyond the tape", x.work(21), NONE);
        due(5, "the tape stays", x.count(2), 20);
        Texts.feed(x, "s;".repeat(60));
        due(5, "n 121", x.work(121), NONE);
        due(5, "the tape stays then, too", x.count(2), 140);
        due(5, "120 bytes", Texts.work(new SplitBehind(), "p00001,001;".repeat(10) + "d00001;s;j"), 13);
    }

    private static void p06() {
        SplitBehind x = new SplitBehind();
        due(6, "new", x.put(65535, 255), 0);
        due(6, "there", x.put(65535, 0), 1);
        due(6, "its value", x.find(65535), 0);
        due(6, "key below", x.put(-1, 0), NONE);
        due(6, "key above", x.put(65536, 0), NONE);
        due(6, "value below", x.put(0, -1), NONE);
        due(6, "value above", x.put(0, 256), NONE);
        due(6, "reads of put, put, find", x.fileIs(11), 3);
        due(6, "writes of put, put", x.fileIs(12), 2);
        // by load: 2 buckets of 3 have 6 places; 5 keys are 83 above 80
        SplitBehind y = Texts.made(2, 3, 83, 0, 1, "k", "n0,5,1");
        due(6, "load 83 is not above 83", y.count(1), 2);
        y.put(5, 5);
        due(6, "load 100 is", y.count(1), 3);
        due(6, "one split alone", y.fileIs(15), 1);
        y.put(5, 6);
        due(6, "a key that is there splits nothing", y.count(1), 3);
        // by pages: the fourth key of a bucket brings a page
        SplitBehind z = Texts.made(2, 3, 50, 0, 2, "k", "n0,3,2");
        due(6, "by pages, none yet", z.count(1), 2);
        z.put(6, 1);
        due(6, "by pages, a new page", z.count(1), 3);
        SplitBehind h = Texts.made(2, 3, 50, 0, 0, "k", "n0,60,1");
        due(6, "by hand alone", h.count(1), 2);
        SplitBehind full = byHand("n0,60,1;n60,60,1;n120,60,1;n180,60,1;n240,60,1");
        int reads = full.fileIs(11);
        due(6, "a 301st", full.put(300, 1), -3);
        due(6, "changes nothing", full.fileIs(11), reads);
        due(6, "NONE ahead of -3", full.put(300, 256), NONE);
        due(6, "one that is there", full.put(299, 1), 1);
        SplitBehind most = Texts.made(4, 2, 50, 0, 1, "k", "n0,60,1;n60,60,1;n120,60,1");
        due(6, "64 buckets are not split", most.count(1), 64);
    }

    private static void p07() {
        SplitBehind x = byHand("n0,5,1");
        int reads = x.fileIs(11);
        due(7, "in the last page", x.find(4), 4);
        due(7, "three reads", x.fileIs(11), reads + 3);
        due(7, "in the first one", x.find(1), 1);
        due(7, "one read", x.fileIs(11), reads + 4);
        due(7, "not there", x.find(5), -2);
        due(7, "all three", x.fileIs(11), reads + 7);
        due(7, "no such key", x.find(-1), NONE);
        due(7, "no such key above", x.find(65536), NONE);
        due(7, "that costs nothing", x.fileIs(11), reads + 7);
    }

    private static void p08() {
        SplitBehind x = byHand("n10,5,1");
        int reads = x.fileIs(11);
        int writes = x.fileIs(12);
        due(8, "its value", x.drop(10), 10);
        due(8, "the last one fills the place", x.bucket(0, 1000), 14);
        due(8, "an empty page goes free", x.page(2, 0), -2);
        due(8, "reads of all", x.fileIs(11), reads + 3);
        due(8, "two writes", x.fileIs(12), writes + 2);
        due(8, "14 11 | 12 13: of the same page", x.drop(12), 12);
        due(8, "one write more", x.fileIs(12), writes + 3);
        due(8, "the last one itself", x.drop(13), 13);
        due(8, "one write", x.fileIs(12), writes + 4);
        due(8, "one page", x.bucket(0, 1), 1);
        x.drop(14);
        x.drop(11);
        due(8, "the only page stays", x.bucket(0, 1), 1);
        reads = x.fileIs(11);
        due(8, "not there", x.drop(11), -2);
        due(8, "reads count", x.fileIs(11), reads + 1);
        due(8, "no such key", x.drop(65536), NONE);
        due(8, "no such key below", x.drop(-1), NONE);
        // by load: 4 buckets of 2: 8 places; below 49: 3 keys (37), not 4 (50)
        for (int policy = 0; policy <= 2; policy++) {
            // by pages key 4 has split one already
            SplitBehind y = Texts.made(2, 2, 300, 49, policy, "k", policy == 2 ? "n0,5,1;s" : "n0,5,1;s;s");
            int buckets = y.count(1);
            y.drop(0);
            due(8, "load 50, policy " + policy, y.count(1), buckets);
            y.drop(1);
            due(8, "load below down, policy " + policy, y.count(1), policy == 0 ? buckets : buckets - 1);
        }
        SplitBehind z = Texts.made(2, 2, 300, 49, 1, "k", "p1,1");
        due(8, "N buckets are not joined", z.drop(1), 1);
        due(8, "they stay", z.count(1), 2);
    }

    private static void p09() {
        SplitBehind x = byHand("n0,7,1");
        due(9, "three go", x.split(), 3);
        int[] pages = {0, 2, 1, 3};
        for (int i = 0; i < 4; i++) due(9, "page " + i, x.bucket(i / 2, 100 + i % 2), pages[i]);
        int[] keys = {0, 2, 4, 6, 1, 3, 5};
        for (int i = 0; i < 7; i++) due(9, "key " + i, x.bucket(i / 4, 1000 + i % 4), keys[i]);
        due(9, "reads", x.fileIs(11), 13 + 4);
        due(9, "writes", x.fileIs(12), 10 + 4);
        due(9, "level", x.fileIs(5), 1);
        due(9, "pointer", x.fileIs(6), 0);
        due(9, "2 and 6 go", x.split(), 2);
        due(9, "level stays", x.fileIs(5), 1);
        due(9, "pointer 1", x.fileIs(6), 1);
        due(9, "values go with their keys", x.find(6), 6);
        for (int b = 3; b < 64; b++) x.split();
        due(9, "64", x.count(1), 64);
        due(9, "no more", x.split(), -3);
        due(9, "nothing changed", x.fileIs(15), 63);
        SplitBehind y = Texts.made(3, 2, 300, 0, 0, "k", "s;s;s;s");
        due(9, "of 3: level", y.fileIs(5), 1);
        due(9, "of 3: pointer", y.fileIs(6), 1);
    }

    private static void p10() {
        SplitBehind x = byHand("n0,7,1;s");
        due(10, "three come back", x.join(), 3);
        int[] keys = {0, 2, 4, 6, 1, 3, 5};
        for (int i = 0; i < 7; i++) due(10, "key " + i, x.bucket(0, 1000 + i), keys[i]);
        int[] pages = {0, 2, 1, 3};
        for (int i = 0; i < 4; i++) due(10, "page " + i, x.bucket(0, 100 + i), pages[i]);
        due(10, "reads", x.fileIs(11), 13 + 4 + 4);
        due(10, "writes", x.fileIs(12), 10 + 4 + 4);
        due(10, "level", x.fileIs(5), 0);
        due(10, "joins", x.fileIs(16), 1);
        due(10, "N alone", x.join(), -3);
        due(10, "nothing changed", x.fileIs(16), 1);
        Texts.work(x, "s;s");
        x.join();
        due(10, "back to pointer 0", x.fileIs(6), 0);
        due(10, "of level 1", x.fileIs(5), 1);
        x.join();
        due(10, "to level 0", x.fileIs(5), 0);
    }

    private static void p11() {
        SplitBehind x = Texts.made(2, 3, 80, 40, 1, "k", "n0,5,2");
        int[] at = {2, 3, 80, 40, 1, 0, 1, 3, 5, 3, 55, 8, 8, 1, 1, 1, 0};
        for (int i = 0; i < at.length; i++) due(11, "fileIs(" + i + ")", x.fileIs(i), at[i]);
        due(11, "below", x.fileIs(-1), NONE);
        due(11, "above", x.fileIs(17), NONE);
        due(11, "longest chain", byHand("n0,7,1").fileIs(13), 4);
    }

    private static void p12() {
        SplitBehind x = Texts.made(2, 3, 300, 0, 0, "k*3", "n0,8,1;s");
        due(12, "hash", x.keyIs(7, 0), 21);
        due(12, "address", x.keyIs(2, 1), 2);
        due(12, "address of one that is not there", x.keyIs(100, 1), 0);
        // 6: in 2 0, in 3 2, in 7 6, in 15 6 (of 8 6), .. 6 stays: 2 moves
        due(12, "moves", x.keyIs(2, 2), 2);
        // 33 is 1 in 2 to 33 buckets, and 33 from 34 on
        due(12, "moves of 33", x.keyIs(11, 2), 1);
        due(12, "moves of 63", x.keyIs(21, 2), 5);
        due(12, "reads", x.keyIs(7, 3), 2);
        due(12, "reads of one that is not there", x.keyIs(9, 3), 2);
        due(12, "reads do not count", x.fileIs(11), Texts.made(2, 3, 300, 0, 0, "k*3", "n0,8,1;s").fileIs(11));
        due(12, "the next split takes it", x.keyIs(1, 4), 3);
        due(12, "the next split leaves it", x.keyIs(3, 4), 1);
        due(12, "not at the pointer", x.keyIs(4, 4), 0);
        due(12, "what 5", x.keyIs(1, 5), NONE);
        due(12, "what below", x.keyIs(1, -1), NONE);
        due(12, "key below", x.keyIs(-1, 0), NONE);
        due(12, "key above", x.keyIs(65536, 0), NONE);
        for (int b = 3; b < 64; b++) x.split();
        due(12, "64 buckets", x.keyIs(1, 4), -3);
        due(12, "NONE first", x.keyIs(-1, 4), NONE);
    }

    private static void p13() {
        SplitBehind x = Texts.made(3, 3, 300, 0, 0, "k", "");
        due(13, "in 3", x.where(10, 3), 1);
        due(13, "in 4", x.where(10, 4), 1);
        due(13, "in 5", x.where(10, 5), 4);
        due(13, "in 6", x.where(10, 6), 4);
        due(13, "in 11", x.where(10, 11), 10);
        due(13, "in 64", x.where(65535, 64), 63);
        due(13, "of 48", x.where(65520, 64), 48);
        due(13, "of 48, not below the pointer", x.where(65488, 64), 16);
        due(13, "fewer than N", x.where(10, 2), NONE);
        due(13, "more than 64", x.where(10, 65), NONE);
        due(13, "no key", x.where(65536, 5), NONE);
    }

    private static void p14() {
        SplitBehind x = byHand("n0,7,1;s");
        due(14, "keys", x.bucket(1, 0), 3);
        due(14, "pages", x.bucket(1, 1), 2);
        due(14, "page 1", x.bucket(1, 101), 3);
        due(14, "page 2", x.bucket(1, 102), -4);
        due(14, "page 899", x.bucket(1, 999), -4);
        due(14, "key 2", x.bucket(1, 1002), 5);
        due(14, "key 3", x.bucket(1, 1003), -4);
        due(14, "far", x.bucket(1, Integer.MAX_VALUE), -4);
        due(14, "what 2", x.bucket(1, 2), NONE);
        due(14, "what 99", x.bucket(1, 99), NONE);
        due(14, "what below", x.bucket(1, Integer.MIN_VALUE), NONE);
        due(14, "bucket 2", x.bucket(2, 0), NONE);
        due(14, "bucket below", x.bucket(-1, 0), NONE);
        due(14, "NONE ahead of -4", x.bucket(2, 1000), NONE);
    }

    private static void p15() {
        SplitBehind x = byHand("n0,7,1;s");
        due(15, "bucket", x.page(3, 0), 1);
        due(15, "place", x.page(3, 1), 1);
        due(15, "keys", x.page(3, 2), 1);
        due(15, "key 0", x.page(3, 10), 5);
        due(15, "key 1", x.page(3, 11), -4);
        due(15, "key 5", x.page(3, 15), -4);
        due(15, "key 6", x.page(3, 16), NONE);
        due(15, "what 3", x.page(3, 3), NONE);
        due(15, "what 9", x.page(3, 9), NONE);
        due(15, "what below", x.page(3, -1), NONE);
        due(15, "free", x.page(4, 0), -2);
        due(15, "free, a key", x.page(255, 15), -2);
        due(15, "free, no such what", x.page(4, 3), NONE);
        due(15, "page 256", x.page(256, 0), NONE);
        due(15, "page below", x.page(-1, 0), NONE);
    }

    private static void p16() {
        SplitBehind x = byHand("n0,7,1;s;s");
        // 0 4 | 1 3 5 | 2 6
        due(16, "of 1", x.chains(1), 2);
        due(16, "of 2", x.chains(2), 1);
        due(16, "of 3", x.chains(3), 0);
        due(16, "of 0", x.chains(0), NONE);
        due(16, "of 150", x.chains(150), 0);
        due(16, "of 151", x.chains(151), NONE);
        due(16, "150 is there", byHand("n0,60,1;n60,60,1;n120,60,1;n180,60,1;n240,60,1").chains(150), 1);
    }

    private static void p17() {
        SplitBehind x = byHand("n0,7,1");
        due(17, "all", x.finds(0), 1 + 1 + 2 + 2 + 3 + 3 + 4);
        due(17, "the most", x.finds(1), 4);
        due(17, "not there", x.finds(2), 4);
        x.split();
        due(17, "all of two", x.finds(0), 1 + 1 + 2 + 2 + 1 + 1 + 2);
        due(17, "the most of two", x.finds(1), 2);
        due(17, "not there, of two", x.finds(2), 4);
        due(17, "no keys", new SplitBehind().finds(1), 0);
        due(17, "what 3", x.finds(3), NONE);
        due(17, "what below", x.finds(-1), NONE);
    }

    private static void p18() {
        SplitBehind x = byHand("n0,7,1");
        due(18, "how many", x.next(NONE), 3);
        due(18, "first", x.next(0), 1);
        due(18, "last", x.next(2), 5);
        due(18, "not so many", x.next(3), -4);
        due(18, "no such i", x.next(-2), -9);
        due(18, "no such i at all", x.next(Integer.MIN_VALUE), -9);
        x.split();
        due(18, "then 2 and 6", x.next(1), 6);
        for (int b = 2; b < 64; b++) x.split();
        due(18, "64", x.next(NONE), -3);
        due(18, "64, i", x.next(1000), -3);
    }

    private static void p19() {
        SplitBehind x = Texts.made(2, 3, 80, 40, 1, "k", "");
        due(19, "by N", x.parted(0, 1), 2);
        due(19, "by 3", x.parted(0, 2), 3);
        due(19, "by 4", x.parted(1, 3), 4);
        due(19, "by 64", x.parted(31, 63), 64);
        due(19, "never", x.parted(1, 65), -2);
        due(19, "like ones", x.parted(4, 4), NONE);
        due(19, "no key", x.parted(4, 65536), NONE);
        due(19, "no other", x.parted(-1, 4), NONE);
    }

    private static void p20() {
        SplitBehind x = Texts.made(1, 6, 300, 0, 0, "k", "n0,8,1");
        due(20, "8", x.enough(8), 1);
        due(20, "7", x.enough(7), 2);
        due(20, "4", x.enough(4), 2);
        due(20, "3: 2 2 4 no, 2 2 2 2", x.enough(3), 4);
        due(20, "1", x.enough(1), 8);
        due(20, "300", x.enough(300), 1);
        due(20, "0", x.enough(0), NONE);
        due(20, "301", x.enough(301), NONE);
        x.put(64, 0);
        due(20, "never", x.enough(1), -2);
    }

    private static void p21() {
        SplitBehind x = Texts.made(1, 2, 300, 0, 0, "k", "n0,7,1");
        // in 3: 0 4 | 1 3 5 | 2 6
        due(21, "pages", x.anew(3, 0), 4);
        due(21, "longest", x.anew(3, 1), 2);
        due(21, "empty", x.anew(3, 2), 0);
        due(21, "reads", x.anew(3, 3), 2 + 4 + 2);
        due(21, "empty in 64", x.anew(64, 2), 57);
        due(21, "pages in 64", x.anew(64, 0), 64);
        due(21, "as now", x.anew(1, 3), x.finds(0));
        due(21, "fewer than N", x.anew(0, 0), NONE);
        due(21, "more than 64", x.anew(65, 0), NONE);
        due(21, "what 4", x.anew(3, 4), NONE);
        due(21, "what below", x.anew(3, -1), NONE);
        due(21, "nothing changed", x.count(1), 1);
    }

    private static void p22() {
        SplitBehind x = byHand("n0,7,1");
        // was 01 23 45 6 in 0 1 2 3; would be 02 46 in 0 2 and 13 5 in 1 3
        int[][] lost = {{0, 1, 2, 1, 0}, {0, 1, 2, 1, 0}};
        int[][] twice = {{0, 1, 2, 1, 0}, {0, 1, 2, 1, 0}};
        for (int kind = 0; kind < 2; kind++) {
            for (int w = 0; w < 5; w++) {
                due(22, "lost, kind " + kind + ", " + w, x.torn(kind, w, 0), lost[kind][w]);
                due(22, "double, kind " + kind + ", " + w, x.torn(kind, w, 1), twice[kind][w]);
            }
        }
        due(22, "not so many", x.torn(0, 5, 0), -4);
        due(22, "kind 2", x.torn(2, 0, 0), NONE);
        due(22, "kind below", x.torn(-1, 0, 0), NONE);
        due(22, "w below", x.torn(0, -1, 0), NONE);
        due(22, "what 2", x.torn(0, 0, 2), NONE);
        due(22, "what below", x.torn(0, 0, -1), NONE);
        due(22, "nothing changed", x.count(1), 1);
        // 0 2 4 6 all stay: was 02 46 in 0 1, would be 02 46 in 0 2 and none in 1
        SplitBehind y = byHand("n0,4,2");
        int[] kind0 = {0, 0, 2, 0};
        for (int w = 0; w < 4; w++) due(22, "all stay, " + w, y.torn(0, w, 1), kind0[w]);
        due(22, "new one first: page 1 is empty", y.torn(1, 1, 0), 2);
        due(22, "then page 0", y.torn(1, 2, 0), 2);
        due(22, "then page 2", y.torn(1, 3, 0), 0);
        // page 2 is free by a drop: was 02 4 in 0 3, would be 04 in 0 and 2 in 2; page 3 keeps its 4
        SplitBehind z = Texts.made(2, 2, 300, 0, 0, "k", "n1,3,2;n0,3,2;d5");
        due(22, "a page that is not written keeps its keys", z.torn(0, 2, 1), 1);
        due(22, "none lost", z.torn(0, 2, 0), 0);
        due(22, "one lost", z.torn(0, 1, 0), 1);
        due(22, "new one first", z.torn(1, 1, 1), 1);
        for (int b = 2; b < 64; b++) z.split();
        due(22, "64", z.torn(0, 0, 0), -3);
        due(22, "64, not so many", z.torn(0, 999, 0), -3);
        due(22, "64, NONE first", z.torn(0, -1, 0), NONE);
    }

    private static void p23() {
        SplitBehind x = Texts.made(2, 3, 80, 40, 1, "k*3", "n0,7,5");
        SplitBehind y = Texts.made(2, 3, 80, 40, 1, "k*3", "n0,7,5");
        int reads = y.fileIs(11);
        int writes = y.fileIs(12);
        Texts.work(y, "x40");
        int[] then = {y.count(1), y.fileIs(10), y.fileIs(9), y.count(0), y.fileIs(11) - reads, y.fileIs(12) - writes};
        for (int i = 0; i < 6; i++) due(23, "as by x40, " + i, x.grown(40, i), then[i]);
        due(23, "nothing stays changed", x.count(0), 7);
        due(23, "X neither", x.count(3), 1);
        due(23, "reads neither", x.fileIs(11), reads);
        due(23, "m 1", x.grown(1, 3), 8);
        due(23, "m 99", x.grown(99, 3), 106);
        due(23, "m 0", x.grown(0, 0), NONE);
        due(23, "m 100", x.grown(100, 0), NONE);
        due(23, "what 6", x.grown(1, 6), NONE);
        due(23, "what below", x.grown(1, -1), NONE);
    }

    private static void p24() {
        // one bucket: C 2: 01 23 4: 9 reads, 6 places; 3: 7, 6; 4: 6, 8; 5: 5, 5; 6: 5, 6
        SplitBehind x = Texts.made(1, 2, 300, 0, 0, "k", "n0,5,1");
        due(24, "reads", x.tuned(0), 5);
        due(24, "places", x.tuned(1), 5);
        // four keys: C 2: 6 reads, 4 places; 4: 4, 4
        SplitBehind y = Texts.made(1, 3, 300, 0, 0, "k", "n0,4,1");
        due(24, "reads of four", y.tuned(0), 4);
        due(24, "of like ones the least", y.tuned(1), 2);
        y.split();
        due(24, "from N buckets on", y.tuned(0), 4);
        due(24, "no keys", new SplitBehind().tuned(0), 2);
        due(24, "what 2", x.tuned(2), NONE);
        due(24, "what below", x.tuned(-1), NONE);
        due(24, "nothing changed", x.fileIs(1), 2);
    }

    private static void p25() {
        SplitBehind x = Texts.made(2, 3, 300, 0, 0, "k", "p0,0;p65535,0;p4099,0");
        due(25, "of bucket 0", x.signs(0), 1);
        due(25, "of bucket 1", x.signs(1), 1 << 15 | 1 << 1 | 1 << 3);
        due(25, "bucket 2", x.signs(2), NONE);
        due(25, "bucket below", x.signs(-1), NONE);
    }

    private static void p26() {
        SplitBehind x = Texts.made(1, 2, 300, 0, 0, "k", "n0,3,1");
        due(26, "those below 256", x.passed(0), 45);
        due(26, "from 256 on", x.passed(256), 48);
        due(26, "round the end: 65281 to 65535 have bit 15, 0 is there", x.passed(65281), 0);
        due(26, "round the end: 16, 17, 18", x.passed(65300), 3);
        due(26, "no such key", x.passed(65536), NONE);
        due(26, "no such key below", x.passed(-1), NONE);
    }

    private static void p27() {
        SplitBehind x = byHand("n0,7,1");
        due(27, "1", x.costing(1), 2);
        due(27, "4", x.costing(4), 1);
        due(27, "5", x.costing(5), 0);
        due(27, "150", x.costing(150), 0);
        due(27, "0", x.costing(0), NONE);
        due(27, "151", x.costing(151), NONE);
        due(27, "150 is there", byHand("n0,60,1;n60,60,1;n120,60,1;n180,60,1;n240,60,1").costing(150), 2);
    }

    private static void p28() {
        SplitBehind x = byHand("n0,7,1");
        due(28, "nothing kept", x.since(0), -3);
        due(28, "NONE first", x.since(4), NONE);
        x.keep();
        Texts.work(x, "s;p7,1;p8,1;d0;d1;d2;p3,99;p4,4");
        due(28, "came", x.since(0), 2);
        due(28, "went", x.since(1), 3);
        due(28, "other values", x.since(2), 1);
        due(28, "other addresses: 3 and 5", x.since(3), 2);
        due(28, "what below", x.since(-1), NONE);
        x.shape(4, 2, 300, 0, 0);
        due(28, "all went", x.since(1), 7);
        Texts.law(x, "k+1");
        Texts.work(x, "n0,7,1");
        due(28, "by laws as they were: 3 is in 0 again", x.since(3), 6);
    }

    private static void p29() {
        SplitBehind x = Texts.made(2, 3, 80, 40, 1, "k%10", "p1,0;p11,0;p3,0;p13,0;p23,0;p5,0");
        due(29, "how many", x.alike(0), 5);
        due(29, "the hash", x.alike(1), 3);
        due(29, "have it", x.alike(2), 3);
        x.put(21, 0);
        due(29, "the least", x.alike(1), 1);
        x.put(33, 0);
        due(29, "the most", x.alike(1), 3);
        due(29, "what 3", x.alike(3), NONE);
        due(29, "what below", x.alike(-1), NONE);
        SplitBehind y = new SplitBehind();
        due(29, "no keys, how many", y.alike(0), 0);
        due(29, "no keys", y.alike(1), -2);
        due(29, "no keys, none", y.alike(2), 0);
    }

    private static void p30() {
        SplitBehind x = Texts.made(3, 3, 80, 40, 1, "k%100", "n0,8,1;p103,0");
        // modulo 3, then by 3 in reverse: 0 (0) 6 (2) 3 103 (1) | 1 (0) 7 (2) 4 (1) | 2 5
        int[] order = {0, 6, 3, 103, 1, 7, 4, 2, 5};
        for (int i = 0; i < order.length; i++) due(30, "key " + i, x.inOrder(i), order[i]);
        due(30, "not so many", x.inOrder(9), -4);
        due(30, "far", x.inOrder(Integer.MAX_VALUE), -4);
        due(30, "below", x.inOrder(-1), NONE);
    }

    private static void p31() {
        SplitBehind x = byHand("n10,5,10");
        due(31, "all", x.between(0, 65535), 5);
        due(31, "both, too", x.between(20, 40), 3);
        due(31, "one", x.between(20, 20), 1);
        due(31, "none", x.between(21, 29), 0);
        due(31, "turned", x.between(30, 20), NONE);
        due(31, "below", x.between(-1, 20), NONE);
        due(31, "above", x.between(0, 65536), NONE);
    }

    private static void p32() {
        SplitBehind x = new SplitBehind();
        due(32, "bit 7", x.bits(0, 7, 0), 128);
        due(32, "bit 8 from 200 on", x.bits(200, 8, 0), 200);
        due(32, "bit 15 round the end", x.bits(65436, 15, 0), 100);
        due(32, "its own bit", x.bits(0, 15, 16), 256);
        due(32, "another one", x.bits(0, 15, 15), 0);
        Texts.law(x, "k+1");
        // bit 1 of k + 1 turns with bit 0 of k for all; bit 2 where bit 1 of k is 1
        due(32, "carried", x.bits(0, 1, 1), 256);
        due(32, "carried on", x.bits(0, 2, 1), 128);
        due(32, "a above", x.bits(65536, 0, 0), NONE);
        due(32, "a below", x.bits(-1, 0, 0), NONE);
        due(32, "i below", x.bits(0, -1, 0), NONE);
        due(32, "i above", x.bits(0, 16, 0), NONE);
        due(32, "what below", x.bits(0, 0, -1), NONE);
        due(32, "what above", x.bits(0, 0, 17), NONE);
    }

    private static void p33to37() {
        SplitBehind x = Texts.made(2, 3, 300, 0, 0, "k", "n0,5,1");
        for (int s = 0; s < 4; s++) due(33, "scan " + s, x.scan(), s);
        due(33, "a fifth", x.scan(), -3);
        due(37, "ends", x.ends(1), 0);
        due(33, "the lowest", x.scan(), 1);
        // 0 4 2 | 1 3
        int[] order = {0, 4, 2, 1, 3};
        due(35, "no last one", x.scanIs(2, 2), -2);
        due(36, "reach at first", x.reach(2), 2);
        for (int i = 0; i < 5; i++) {
            due(35, "to come", x.scanIs(2, 1), 5 - i);
            due(34, "told", x.tell(2), order[i]);
            due(35, "how many", x.scanIs(2, 0), i + 1);
            due(35, "the last", x.scanIs(2, 2), order[i]);
        }
        due(34, "none more", x.tell(2), -2);
        due(35, "still five", x.scanIs(2, 0), 5);
        due(36, "reach at the end", x.reach(2), 0);
        due(35, "another scan", x.scanIs(0, 0), 0);
        due(34, "it goes by itself", x.tell(0), 0);
        due(34, "4", x.tell(0), 4);
        Texts.work(x, "d2;s;p8,8;d4;p6,6");
        due(36, "6 | 1 3", x.reach(0), 2);
        due(34, "8 stands ahead of 4, 6 behind", x.tell(0), 6);
        Texts.work(x, "s;s");
        due(36, "1 | 3", x.reach(0), 2);
        due(34, "1", x.tell(0), 1);
        Texts.work(x, "j;j;j;d1");
        due(34, "3", x.tell(0), 3);
        due(37, "told", x.ends(0), 5);
        for (int s : new int[] {0, -1, 4, Integer.MIN_VALUE, Integer.MAX_VALUE}) {
            due(34, "tell " + s, x.tell(s), NONE);
            due(35, "scanIs " + s, x.scanIs(s, 0), NONE);
            due(36, "reach " + s, x.reach(s), NONE);
            due(37, "ends " + s, x.ends(s), NONE);
        }
        due(35, "what 3", x.scanIs(2, 3), NONE);
        due(35, "what below", x.scanIs(2, -1), NONE);
        due(33, "begins anew", x.scan(), 0);
        due(35, "with none told", x.scanIs(0, 0), 0);
        // a scan goes by the law as it is: 5 stood behind 0, but stands ahead of it by ~k
        SplitBehind y = Texts.made(1, 3, 300, 0, 0, "k", "p0,0;p5,0");
        y.scan();
        y.tell(0);
        Texts.work(y, "d0;d5");
        Texts.law(y, "~k");
        Texts.work(y, "p0,0;p5,0");
        due(34, "by the law as it is", y.tell(0), -2);
    }

    private static void p38() {
        SplitBehind x = new SplitBehind();
        due(38, "0", x.seed(0), true);
        due(38, "X, too", x.count(3), 0);
        Texts.work(x, "x1");
        due(38, "drawn from it", x.count(3), 13849);
        due(38, "65535", x.seed(65535), true);
        due(38, "65536", x.seed(65536), false);
        due(38, "below", x.seed(-1), false);
        due(38, "stays", x.count(3), 65535);
    }

    private static void p39and40() {
        SplitBehind x = Texts.made(2, 3, 80, 40, 1, "k*5", "n0,9,1;x3");
        x.scan();
        x.tell(0);
        x.seed(77);
        int[] was = new int[17];
        for (int i = 0; i < 17; i++) was[i] = x.fileIs(i);
        int last = x.scanIs(0, 2);
        due(40, "nothing kept", x.undo(), false);
        due(39, "how many keys", x.keep(), 12);
        Texts.work(x, "p0,250;x5;y9;s;s;j");
        x.tell(0);
        x.scan();
        Texts.feed(x, "kk");
        x.shape(4, 6, 300, 0, 2);
        Texts.law(x, "k");
        Texts.feed(x, "kk");
        for (int time = 0; time < 2; time++) {
            due(40, "undone", x.undo(), true);
            for (int i = 0; i < 17; i++) due(40, "fileIs(" + i + ")", x.fileIs(i), was[i]);
            due(40, "the law", x.keyIs(3, 0), 15);
            due(40, "X", x.count(3), 77);
            due(40, "scans", x.count(4), 1);
            due(40, "the scan's last", x.scanIs(0, 2), last);
            due(40, "values", x.since(2), 0);
            due(40, "the tape is not the file's", x.count(2), 20);
            x.drop(1);
        }
        x.keep();
        x.undo();
        due(40, "as it was kept last", x.find(1), -2);
    }

    private static void p41() {
        SplitBehind x = Texts.made(2, 3, 300, 0, 0, "k", "n0,5,1");
        int[] order = {0, 4, 2, 1, 3};
        int right = 0 << 24 | 4 << 16 | 2 << 8 | 1;
        x.feed(right, 3 << 24, 0, 0, 0);
        due(41, "right", x.check(order.length), NONE);
        due(41, "empty then", x.count(2), 0);
        x.feed(right, 3 << 24, 0, 0, 0);
        due(41, "the first ones alone", x.check(3), NONE);
        x.feed(right, 3 << 24, 0, 0, 0);
        due(41, "beyond all keys nothing is", x.check(6), 5);
        x.feed(right, 9 << 24, 0, 0, 0);
        due(41, "the last one is not so", x.check(5), 4);
        due(41, "empty then, too", x.count(2), 0);
        x.feed(right | 1 << 24, 0, 0, 0, 0);
        due(41, "the first one is not so", x.check(5), 0);
        x.feed(0, 0, 0, 0, 0);
        due(41, "n below", x.check(-1), -2);
        due(41, "n beyond the tape", x.check(21), -2);
        due(41, "the tape stays", x.count(2), 20);
        due(41, "n 0", x.check(0), NONE);
        due(41, "n 0 empties it", x.count(2), 0);
        for (int i = 0; i < 16; i++) x.feed(0, 0, 0, 0, 0);
        due(41, "n 301", x.check(301), -2);
        due(41, "n 300", x.check(300), 1);
        SplitBehind full = Texts.made(2, 3, 300, 0, 0, "k*0", "n0,60,1;n60,60,1;n120,60,1;n180,60,1;n240,60,1");
        for (int i = 0; i < 320; i += 20) {
            int[] f = new int[5];
            for (int j = 0; j < 20; j++) f[j / 4] = f[j / 4] << 8 | (i + j & 255);
            full.feed(f[0], f[1], f[2], f[3], f[4]);
        }
        due(41, "all 300", full.check(300), NONE);
    }

    private static void p42() {
        SplitBehind x = Texts.made(1, 2, 300, 0, 0, "k", "n0,5,1;s");
        x.scan();
        x.scan();
        x.feed(0, 0, 0, 0, 0);
        int[] counts = {5, 2, 20, 1, 2};
        for (int i = 0; i < 5; i++) due(42, "count(" + i + ")", x.count(i), counts[i]);
        due(42, "5", x.count(5), NONE);
        due(42, "below", x.count(-1), NONE);
        due(42, "far", x.count(Integer.MIN_VALUE), NONE);
    }

    public static void main(String[] args) {
        p01();
        p02();
        p03();
        p04Hashes();
        p04Faults();
        p04State();
        p05Done();
        p05Full();
        p05Faults();
        p06();
        p07();
        p08();
        p09();
        p10();
        p11();
        p12();
        p13();
        p14();
        p15();
        p16();
        p17();
        p18();
        p19();
        p20();
        p21();
        p22();
        p23();
        p24();
        p25();
        p26();
        p27();
        p28();
        p29();
        p30();
        p31();
        p32();
        p33to37();
        p38();
        p39and40();
        p41();
        p42();
        System.out.println(asked + " answers, " + wrong + " not as due");
        if (wrong > 0) System.exit(1);
    }
}
