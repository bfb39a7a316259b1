/** Promises 1 to 22, each clause at its bounds. */
public final class PromiseBoundsTest extends Sentences {

    /** A text of so many letters k with + between, or of k alone. */
    private static String letters(int many) {
        return "k+".repeat(many).substring(0, many);
    }

    @Says(promise = 1, words = "An empty FILE as at first; THE LAW \"k\", THE SEED 1; no SCANS.")
    static void p01() {
        SplitBehind x = new SplitBehind();
        int[] at = {2, 3, 80, 40, 1, 0, 0, 2, 0, 2, 0, 0, 0, 1, 2, 0, 0};
        for (int i = 0; i < at.length; i++) due("fileIs(" + i + ")", x.fileIs(i), at[i]);
        int[] counts = {0, 2, 0, 1, 0};
        for (int i = 0; i < counts.length; i++) due("count(" + i + ")", x.count(i), counts[i]);
        due("the law", x.keyIs(54321, 0), 54321);
        for (int s = 0; s < 4; s++) due("scan " + s + " is not open", x.tell(s), NONE);
        for (int p = 0; p < 256; p++) due("page " + p, x.page(p, 0), p < 2 ? p : -2);
        due("nothing kept", x.since(0), -3);
    }

    @Says(promise = 2, words = "Twenty bytes come behind the tape, the highest of each int first: how many it has")
    static void p02() {
        // keys 0 to 39 stand in order by the law 0; their values are to be the bytes
        SplitBehind x = Texts.made(1, 6, 300, 0, 0, "0", "");
        int[] bytes = {1, 2, 3, 4, 5, 6, 7, 8, 255, 254, 253, 252, 128, 127, 0, 0, 0, 0, 0, 129};
        for (int i = 0; i < 20; i++) {
            x.put(i, bytes[i]);
            x.put(20 + i, 20 + i);
        }
        due("20", x.feed(0x01020304, 0x05060708, -66052, 0x807F0000, 0x81), 20);
        due("40", x.feed(0x14151617, 0x18191A1B, 0x1C1D1E1F, 0x20212223, 0x24252627), 40);
        due("as many are there", x.count(2), 40);
        due("in this order", x.check(40), NONE);
    }

    @Says(promise = 2, words = "NONE if that would be more than 320.")
    static void p02Full() {
        SplitBehind x = new SplitBehind();
        for (int i = 1; i <= 15; i++) due("feed " + i, x.feed(0, 0, 0, 0, i), 20 * i);
        due("320 are not more than 320", x.feed(0, 0, 0, 0, 0), 320);
        due("340 are", x.feed(0, 0, 0, 0, 0), NONE);
        due("and again", x.feed(1, 1, 1, 1, 1), NONE);
        due("320 stay", x.count(2), 320);
        x.check(0);
        due("it is fed again when it is empty", x.feed(0, 0, 0, 0, 0), 20);
    }

    @Says(promise = 3, words = "An empty FILE of N, C, UP, DOWN, POLICY (no SCANS, READS and WRITES 0; THE LAW and X stay): true")
    static void p03() {
        SplitBehind x = Texts.made(1, 2, 50, 49, 1, "k+7", "n0,60,1;d3;x5;g2");
        for (int s = 0; s < 4; s++) x.scan();
        x.tell(2);
        int drawn = x.count(3);
        due("true", x.shape(4, 6, 300, 49, 2), true);
        int[] at = {4, 6, 300, 49, 2, 0, 0, 4, 0, 4, 0, 0, 0, 1, 4, 0, 0};
        for (int i = 0; i < at.length; i++) due("fileIs(" + i + ")", x.fileIs(i), at[i]);
        due("no scans", x.count(4), 0);
        due("scan 2 is not open", x.scanIs(2, 0), NONE);
        due("the law stays", x.keyIs(1, 0), 8);
        due("X stays", x.count(3), drawn);
        due("no keys in order", x.inOrder(0), -4);
        due("a key is gone", x.find(5), -2);
        for (int p = 0; p < 256; p++) due("page " + p, x.page(p, 0), p < 4 ? p : -2);
        due("scans begin at 0 again", x.scan(), 0);
        due("the least ones", x.shape(1, 2, 50, 0, 0), true);
        int[] least = {1, 2, 50, 0, 0, 0, 0, 1, 0, 1, 0, 0, 0, 1, 1, 0, 0};
        for (int i = 0; i < least.length; i++) due("least, fileIs(" + i + ")", x.fileIs(i), least[i]);
    }

    @Says(promise = 3, words = "false: no such ones.")
    static void p03No() {
        SplitBehind x = new SplitBehind();
        bounds("N", n -> asInt(x.shape(n, 3, 80, 40, 1)), 1, 4, 0);
        bounds("C", c -> asInt(x.shape(2, c, 80, 40, 1)), 2, 6, 0);
        bounds("UP", u -> asInt(x.shape(2, 3, u, 40, 1)), 50, 300, 0);
        bounds("DOWN", d -> asInt(x.shape(2, 3, 80, d, 1)), 0, 49, 0);
        bounds("POLICY", p -> asInt(x.shape(2, 3, 80, 40, p)), 0, 2, 0);
        due("all of them", x.shape(0, 0, 0, -1, -1), false);
    }

    @Says(promise = 4, words = "THE LAW by the first n bytes of the tape (1 to 60; empty then), in place of the one before: how many KEYS there are")
    static void p04() {
        SplitBehind x = new SplitBehind();
        Texts.feed(x, "k+12345");
        due("of 20 bytes the first 4", x.law(4), 0);
        due("k+12", x.keyIs(1, 0), 13);
        due("empty then", x.count(2), 0);
        Texts.feed(x, "7");
        due("n 1", x.law(1), 0);
        due("in place of the one before", x.keyIs(1, 0), 7);
        Texts.feed(x, letters(59) + "|7");
        due("n 59 of 80", x.law(59), 0);
        due("30 k", x.keyIs(1, 0), 30);
        Texts.feed(x, "k+".repeat(29) + "11");
        due("n 60 of 60", x.law(60), 0);
        due("29 k and 11", x.keyIs(1, 0), 40);
        for (int i = 0; i < 16; i++) x.feed(0x6B6B6B6B, 0, 0, 0, 0);
        due("n 1 of 320", x.law(1), 0);
        due("320 are gone", x.count(2), 0);
    }

    @Says(promise = 4, words = "a FAULT: -1000 times its number, less its place (the one before stays)")
    static void p04Fault() {
        String[] laws = {"x", "k+k+x", "000000", "k*65536", "<0k", "(((((((k"};
        int[] faults = {-1000, -1004, -2005, -3002, -3001, -5006};
        for (int i = 0; i < laws.length; i++) {
            SplitBehind x = new SplitBehind();
            Texts.law(x, "k+5");
            due(laws[i], Texts.law(x, laws[i]), faults[i]);
            due("the one before stays", x.keyIs(1, 0), 6);
            due("the tape is empty", x.count(2), 0);
        }
        SplitBehind again = new SplitBehind();
        for (String spoilt : new String[] {"(", "((((((", "~", "k+(k*", "<3r(k+", "k-", "(k-(k*"}) {
            due("a fault of " + spoilt, Texts.law(again, spoilt), -1000 - spoilt.length());
            due("a right one behind " + spoilt, Texts.law(again, "5+(k*2)"), 0);
            due("it is in force", again.keyIs(10, 0), 25);
        }
        SplitBehind y = new SplitBehind();
        Texts.feed(y, "k+k");
        due("the end at n, whatever stands behind it", y.law(2), -1002);
        due("the end at 60", Texts.law(y, letters(60)), -1060);
    }

    @Says(promise = 4, words = "-3: there are KEYS (asked ahead of FAULTS; the tape is empty then)")
    static void p04Keys() {
        SplitBehind x = new SplitBehind();
        x.put(1, 1);
        due("a law that is right", Texts.law(x, "k+5"), -3);
        due("empty then", x.count(2), 0);
        due("a law with a fault", Texts.law(x, "+++"), -3);
        due("empty then, too", x.count(2), 0);
        due("the law stays", x.keyIs(1, 0), 1);
        x.drop(1);
        due("no keys any more", Texts.law(x, "k+5"), 0);
        due("so it is told", x.keyIs(1, 0), 6);
        SplitBehind full = byHand(1, 2, ALL_300);
        due("300 keys", Texts.law(full, "k"), -3);
        full.shape(1, 2, 80, 40, 1);
        due("none by a shape", Texts.law(full, "k"), 0);
    }

    @Says(promise = 4, words = "NONE: no such n, it has not so many (the tape stays).")
    static void p04None() {
        SplitBehind x = new SplitBehind();
        due("an empty tape", x.law(1), NONE);
        Texts.feed(x, "k".repeat(20));
        for (int n : new int[] {Integer.MIN_VALUE, -1, 0, 21, 60, 61, Integer.MAX_VALUE}) {
            due("n " + n + " of 20", x.law(n), NONE);
            due("the tape stays", x.count(2), 20);
        }
        due("n 20 of 20 is read", x.law(20), -1001);
        Texts.feed(x, letters(80));
        due("n 61 of 80", x.law(61), NONE);
        due("80 stay", x.count(2), 80);
        x.put(1, 1);
        due("ahead of -3", x.law(0), NONE);
        due("80 stay with keys, too", x.count(2), 80);
    }

    @Says(promise = 5, words = "WORK by the first n bytes of the tape (1 to 120; empty then), done STEP by STEP: how many STEPS")
    static void p05() {
        SplitBehind x = byHand(1, 2, "");
        Texts.feed(x, "p1,23;p4,5;p6,7");
        due("the first 5 of 20", x.work(5), 1);
        due("p1,23", x.find(1), 23);
        due("no more is done", x.count(0), 1);
        due("empty then", x.count(2), 0);
        Texts.feed(x, "s");
        due("n 1", x.work(1), 1);
        due("n 119", Texts.work(x, "p00001,001;".repeat(10) + "d00001;g0"), 12);
        due("n 120", Texts.work(x, "p00001,001;".repeat(10) + "d00001;s;j"), 13);
        due("empty behind 120", x.count(2), 0);
        due("step by step", Texts.work(x, "p5,1;p5,2;d5;p5,3"), 4);
        due("the last one counts", x.find(5), 3);
        for (int i = 0; i < 16; i++) x.feed(0x73737373, 0, 0, 0, 0);
        due("n 1 of 320", x.work(1), 1);
        due("320 are gone", x.count(2), 0);
    }

    @Says(promise = 5, words = "a FAULT (nothing is done)")
    static void p05Fault() {
        String[] works = {"p1,1;x5;s;q", "p1,1;x5;s;", "x5;s;d000000", "x5;s;p1,256", "x5;s;y61", "s" + ";s".repeat(19) + ";s"};
        int[] faults = {-1010, -1010, -2011, -3008, -3006, -4040};
        for (int i = 0; i < works.length; i++) {
            SplitBehind x = byHand(1, 2, "n0,5,1");
            int reads = x.fileIs(11);
            due(works[i], Texts.work(x, works[i]), faults[i]);
            due("no put", x.count(0), 5);
            due("no split", x.fileIs(15), 0);
            due("no read", x.fileIs(11), reads);
            due("nothing drawn", x.count(3), 1);
            due("the tape is empty", x.count(2), 0);
        }
    }

    @Says(promise = 5, words = "NONE: no such n, it has not so many (the tape stays).")
    static void p05None() {
        SplitBehind x = new SplitBehind();
        due("an empty tape", x.work(1), NONE);
        Texts.feed(x, "s");
        for (int n : new int[] {Integer.MIN_VALUE, -1, 0, 21, 120, 121, Integer.MAX_VALUE}) {
            due("n " + n + " of 20", x.work(n), NONE);
            due("the tape stays", x.count(2), 20);
        }
        due("n 20 of 20 is read", x.work(20), -1001);
        Texts.feed(x, "s".repeat(140));
        due("n 121 of 140", x.work(121), NONE);
        due("140 stay", x.count(2), 140);
        due("nothing was done", x.fileIs(15), 0);
    }

    @Says(promise = 6, words = "PUT: 1 it was there, 0 not")
    static void p06() {
        SplitBehind x = new SplitBehind();
        due("0, new", x.put(0, 0), 0);
        due("0, there, the same value", x.put(0, 0), 1);
        due("65535, new", x.put(65535, 255), 0);
        due("65535, there", x.put(65535, 0), 1);
        due("dropped, new again", x.drop(0) + x.put(0, 0), 0);
        due("by work it was there", Texts.work(x, "p7,7") + x.put(7, 8), 2);
    }

    @Says(promise = 6, words = "-3: there are 300 and it is not")
    static void p06Full() {
        SplitBehind x = byHand(1, 2, ALL_300);
        due("a 301st", x.put(300, 0), -3);
        due("another 301st", x.put(65535, 0), -3);
        due("one that is there", x.put(299, 0), 1);
        x.drop(299);
        due("of 299 none is refused", x.put(299, 0), 0);
    }

    @Says(promise = 6, words = "NONE: no such ones.")
    static void p06None() {
        SplitBehind x = new SplitBehind();
        bounds("key", k -> x.put(k, 0), 0, 65535, NONE);
        bounds("value", v -> x.put(0, v), 0, 255, NONE);
        due("both", x.put(-1, 256), NONE);
    }

    @Says(promise = 7, words = "FIND: the VALUE; -2: it is not there; NONE: no such KEY.")
    static void p07() {
        SplitBehind x = byHand(1, 2, "p0,0;p65535,255;p7,1");
        due("value 0", x.find(0), 0);
        due("value 255", x.find(65535), 255);
        due("not there", x.find(6), -2);
        dueRow("which costs all pages", costOf(x, () -> x.find(6)), 2, 0);
        bounds("key", x::find, 0, 65535, NONE);
        dueRow("no such key costs nothing", costOf(x, () -> x.find(65536)), 0, 0);
        due("no keys", new SplitBehind().find(0), -2);
    }

    @Says(promise = 8, words = "DROP: its VALUE; -2: it is not there (READS count); NONE: no such KEY.")
    static void p08() {
        SplitBehind x = byHand(1, 2, "p0,0;p65535,255;p7,1");
        due("value 0", x.drop(0), 0);
        due("it is gone", x.drop(0), -2);
        due("value 255", x.drop(65535), 255);
        dueRow("not there, reads count", costOf(x, () -> x.drop(6)), 1, 0);
        due("one is left", x.count(0), 1);
        SplitBehind y = byHand(1, 2, "p0,0;p65535,0");
        bounds("key", y::drop, 0, 65535, NONE);
        dueRow("no such key costs nothing", costOf(y, () -> y.drop(-1)), 0, 0);
        SplitBehind empty = new SplitBehind();
        due("no keys", empty.drop(0), -2);
        due("no keys, reads count", empty.fileIs(11), 1);
    }

    @Says(promise = 9, words = "A SPLIT: how many KEYS went to the new BUCKET; -3: there are 64.")
    static void p09() {
        due("no keys", byHand(1, 2, "").split(), 0);
        due("none of three", byHand(1, 2, "n0,3,2").split(), 0);
        due("all three", byHand(1, 2, "n1,3,2").split(), 3);
        due("three of seven", byHand(1, 2, "n0,7,1").split(), 3);
        for (int n = 1; n <= 4; n++) {
            SplitBehind x = byHand(n, 2, "");
            splitUpTo(x, 63);
            due("63, N " + n, x.split(), 0);
            dueRow("64 cost nothing", costOf(x, () -> due("64", x.split(), -3)), 0, 0);
            due("64 stay", x.count(1), 64);
            due("splits", x.fileIs(15), 64 - n);
        }
    }

    @Says(promise = 10, words = "A JOIN: how many KEYS came back; -3: there are N alone.")
    static void p10() {
        due("no keys", byHand(1, 2, "s").join(), 0);
        due("none of three", byHand(1, 2, "n0,3,2;s").join(), 0);
        due("all three", byHand(1, 2, "n1,3,2;s").join(), 3);
        for (int n = 1; n <= 4; n++) {
            SplitBehind x = byHand(n, 2, "n0,9,1;s");
            due("N and one, N " + n, x.join() >= 0, true);
            dueRow("N cost nothing", costOf(x, () -> due("N alone", x.join(), -3)), 0, 0);
            due("N stay", x.count(1), n);
            due("joins", x.fileIs(16), 1);
        }
    }

    @Says(promise = 11, words = "What 0 N, 1 C, 2 UP, 3 DOWN, 4 POLICY, 5 LEVEL, 6 POINTER, 7 BUCKETS, 8 KEYS, 9 PAGES that are not free, 10 LOAD, 11 READS, 12 WRITES, 13 PAGES of the longest chain, 14 BUCKETS without KEYS, 15 SPLITS done, 16 JOINS done (since shape())")
    static void p11() {
        SplitBehind x = Texts.made(3, 2, 299, 1, 2, "k", "");
        // no keys: each split reads 1 and writes 2, the join reads 2 and writes 1
        Texts.work(x, "s;s;s;s;j");
        int[] at = {3, 2, 299, 1, 2, 1, 0, 6, 0, 6, 0, 4 + 2, 8 + 1, 1, 6, 4, 1};
        for (int i = 0; i < at.length; i++) due("no keys, fileIs(" + i + ")", x.fileIs(i), at[i]);
        // 0 6 in bucket 0, then 12: reads 1 each, the third one writes 2; its page brings a split of 0 6 12, which reads 2:
        // 0 12 stay, 6 goes to bucket 6
        Texts.work(x, "n0,3,6");
        int[] then = {3, 2, 299, 1, 2, 1, 1, 7, 3, 7, 21, 6 + 3 + 2, 9 + 4 + 2, 1, 5, 5, 1};
        for (int i = 0; i < then.length; i++) due("3 keys, fileIs(" + i + ")", x.fileIs(i), then[i]);
        due("the longest chain", byHand(1, 2, ALL_300).fileIs(13), 150);
        due("none without keys", byHand(2, 2, "n0,2,1").fileIs(14), 0);
        x.shape(3, 2, 299, 1, 2);
        due("splits since shape()", x.fileIs(15), 0);
        due("joins since shape()", x.fileIs(16), 0);
    }

    @Says(promise = 11, words = "NONE: no such what.")
    static void p11None() {
        bounds("what", new SplitBehind()::fileIs, 0, 16, NONE);
    }

    @Says(promise = 12, words = "Of a KEY (there or not), what 0 HASH, 1 ADDRESS, 2 MOVES, 3 how many READS a FIND would have")
    static void p12() {
        SplitBehind x = Texts.made(2, 2, 300, 0, 0, "k*3", "n0,9,1;s");
        // hashes 0 6 12 18 24 in bucket 0 before: 0 12 24 stay, 6 18 go; 3 9 15 21 in bucket 1
        int[] hash = {0, 3, 6, 9, 12, 15, 18, 21, 24, 27};
        int[] address = {0, 1, 2, 1, 0, 1, 2, 1, 0, 1};
        int[] reads = {1, 1, 1, 1, 1, 2, 1, 2, 2, 2};
        for (int k = 0; k < 10; k++) {
            due("hash of " + k, x.keyIs(k, 0), hash[k]);
            due("address of " + k, x.keyIs(k, 1), address[k]);
            due("reads of " + k, x.keyIs(k, 3), reads[k]);
        }
        due("moves of 21, there or not: 63", x.keyIs(21, 2), 5);
        // by k+1 keys 1 3 5 are in bucket 0, in two pages, and 0 is in bucket 1
        SplitBehind next = Texts.made(2, 2, 300, 0, 0, "k+1", "n1,3,2;p0,0");
        due("by its hash: address", next.keyIs(0, 1), 1);
        due("by its hash: reads of 5", next.keyIs(5, 3), 2);
        due("by its hash: reads of 7, which is not there", next.keyIs(7, 3), 2);
        due("by its hash: reads of 4, which is not there", next.keyIs(4, 3), 1);
        due("65535 times 3", x.keyIs(65535, 0), 65533);
        due("reads in an empty bucket", new SplitBehind().keyIs(65535, 3), 1);
        due("reads of the 300th", byHand(1, 2, ALL_300).keyIs(299, 3), 150);
        dueRow("a find would, this does not", costOf(x, () -> x.keyIs(5, 3)), 0, 0);
    }

    @Says(promise = 12, words = "4 the BUCKET to which the next SPLIT would bring what stands at its ADDRESS (its ADDRESS, if it stays; there are 64: -3)")
    static void p12Next() {
        for (int n = 1; n <= 4; n++) {
            SplitBehind x = byHand(n, 2, "");
            int[] keys = {0, 1, 2, 3, 31, 32, 47, 48, 63, 64, 95, 65535};
            for (int b = n; b < 64; b++) {
                int[] would = new int[keys.length];
                for (int i = 0; i < keys.length; i++) would[i] = x.keyIs(keys[i], 4);
                x.split();
                for (int i = 0; i < keys.length; i++) due("key " + keys[i] + " of " + b + ", N " + n, would[i], x.keyIs(keys[i], 1));
            }
            for (int key : keys) due("64, key " + key, x.keyIs(key, 4), -3);
        }
        SplitBehind next = Texts.made(2, 2, 300, 0, 0, "k+1", "");
        int[] would = {1, 2, 1, 0, 1, 2};
        for (int key = 0; key < 6; key++) due("by its hash, key " + key, next.keyIs(key, 4), would[key]);
    }

    @Says(promise = 12, words = "NONE: no such ones.")
    static void p12None() {
        SplitBehind x = new SplitBehind();
        for (int what = 0; what <= 4; what++) {
            int w = what;
            bounds("key, what " + w, k -> x.keyIs(k, w), 0, 65535, NONE);
        }
        bounds("what", w -> x.keyIs(5, w), 0, 4, NONE);
    }

    @Says(promise = 13, words = "WHERE a KEY is in b; NONE: no such ones.")
    static void p13() {
        for (int n = 1; n <= 4; n++) {
            SplitBehind x = byHand(n, 2, "");
            bounds("b, N " + n, b -> x.where(9, b), n, 64, NONE);
            bounds("key, N " + n, k -> x.where(k, 64), 0, 65535, NONE);
        }
        SplitBehind y = byHand(3, 2, "");
        int[] in = {1, 1, 4, 4, 4, 4, 4, 4, 10};
        for (int b = 3; b <= 11; b++) due("10 in " + b, y.where(10, b), in[b - 3]);
        splitUpTo(y, 20);
        due("fewer than there are", y.where(10, 3), 1);
        SplitBehind next = Texts.made(3, 2, 300, 0, 0, "k+1", "");
        due("by its hash", next.where(9, 11), 10);
    }

    @Says(promise = 14, words = "Of a BUCKET, what 0 KEYS, 1 PAGES; 100 + i PAGE i of the chain; 1000 + i the KEY at place i of it (100, 1000 and more: there are not so many: -4)")
    static void p14() {
        SplitBehind x = byHand(2, 2, "n0,5,2");
        due("keys", x.bucket(0, 0), 5);
        due("no keys", x.bucket(1, 0), 0);
        due("pages", x.bucket(0, 1), 3);
        due("one page", x.bucket(1, 1), 1);
        due("page 0", x.bucket(0, 100), 0);
        due("page 2, the last one", x.bucket(0, 102), 3);
        due("page 3", x.bucket(0, 103), -4);
        due("page 899", x.bucket(0, 999), -4);
        due("key 0", x.bucket(0, 1000), 0);
        due("key 4, the last one", x.bucket(0, 1004), 8);
        due("key 5", x.bucket(0, 1005), -4);
        due("the last what", x.bucket(0, Integer.MAX_VALUE), -4);
        due("page 0 of one without keys", x.bucket(1, 100), 1);
        due("page 1 of it", x.bucket(1, 101), -4);
        due("key 0 of it", x.bucket(1, 1000), -4);
        SplitBehind full = byHand(1, 2, ALL_300);
        due("page 149", full.bucket(0, 249), 149);
        due("page 150", full.bucket(0, 250), -4);
        due("key 299", full.bucket(0, 1299), 299);
        due("key 300", full.bucket(0, 1300), -4);
    }

    @Says(promise = 14, words = "NONE: no such ones.")
    static void p14None() {
        SplitBehind x = byHand(2, 2, "n0,5,2;s");
        for (int what : new int[] {0, 1, 100, 1000}) bounds("bucket, what " + what, b -> x.bucket(b, what), 0, 2, NONE);
        for (int what : new int[] {Integer.MIN_VALUE, -1, 2, 3, 50, 98, 99}) due("what " + what, x.bucket(0, what), NONE);
        splitUpTo(x, 64);
        bounds("bucket of 64", b -> x.bucket(b, 0), 0, 63, NONE);
    }

    @Says(promise = 15, words = "Of a PAGE (0 to 255), what 0 its BUCKET, 1 its place in the chain, 2 how many KEYS; 10 + i the KEY at place i (0 to 5; not so many: -4)")
    static void p15() {
        SplitBehind x = byHand(2, 6, "n0,8,2;p1,0");
        due("bucket", x.page(2, 0), 0);
        due("bucket of page 1", x.page(1, 0), 1);
        due("place 0", x.page(0, 1), 0);
        due("place 1", x.page(2, 1), 1);
        due("six keys", x.page(0, 2), 6);
        due("two keys", x.page(2, 2), 2);
        due("place 0's key", x.page(0, 10), 0);
        due("place 5's key", x.page(0, 15), 10);
        due("place 1 of two", x.page(2, 11), 14);
        due("place 2 of two", x.page(2, 12), -4);
        due("place 5 of two", x.page(2, 15), -4);
        due("a page without keys", byHand(1, 2, "").page(0, 10), -4);
        due("how many it has", byHand(1, 2, "").page(0, 2), 0);
        due("the most of 2", byHand(1, 2, "n0,2,1").page(0, 11), 1);
        due("one more than 2", byHand(1, 2, "n0,3,1").page(0, 12), -4);
        bounds("page", p -> x.page(p, 0), 0, 255, NONE);
    }

    @Says(promise = 15, words = "-2: it is free; NONE: no such ones.")
    static void p15Free() {
        SplitBehind x = byHand(2, 2, "n0,5,2;d0");
        for (int what : new int[] {0, 1, 2, 10, 15}) {
            due("free ever since, what " + what, x.page(255, what), -2);
            due("free again, what " + what, x.page(3, what), -2);
        }
        for (int what : new int[] {Integer.MIN_VALUE, -1, 3, 9, 16, 100, Integer.MAX_VALUE}) {
            due("what " + what, x.page(0, what), NONE);
            due("free, what " + what, x.page(255, what), NONE);
        }
        for (int what : new int[] {0, 1, 2, 10, 15}) bounds("page, what " + what, p -> x.page(p, what), 0, 255, NONE);
    }

    @Says(promise = 16, words = "How many BUCKETS have so many PAGES (1 to 150); NONE: no such number.")
    static void p16() {
        SplitBehind x = byHand(3, 2, "n0,5,3;p1,0");
        due("one page", x.chains(1), 2);
        due("two", x.chains(2), 0);
        due("three", x.chains(3), 1);
        bounds("pages", x::chains, 1, 150, NONE);
        SplitBehind full = byHand(1, 2, ALL_300);
        due("150", full.chains(150), 1);
        due("149", full.chains(149), 0);
        splitUpTo(x, 64);
        due("of 64", x.chains(1), 64);
    }

    @Says(promise = 17, words = "FINDS together, what 0 READS of all KEYS' FINDS, 1 the most of one, 2 READS of FINDS of one KEY at each ADDRESS that is not there; NONE: no such what.")
    static void p17() {
        SplitBehind x = byHand(2, 2, "n0,5,2;p1,0");
        due("all", x.finds(0), 1 + 1 + 2 + 2 + 3 + 1);
        due("the most", x.finds(1), 3);
        due("not there", x.finds(2), 3 + 1);
        bounds("what", x::finds, 0, 2, NONE);
        SplitBehind none = byHand(4, 2, "");
        due("no keys, all", none.finds(0), 0);
        due("no keys, the most", none.finds(1), 0);
        due("no keys, not there", none.finds(2), 4);
        SplitBehind full = byHand(1, 2, ALL_300);
        due("the most of 300", full.finds(1), 150);
        due("not there of 300", full.finds(2), 150);
        due("full pages alone", byHand(1, 2, "n0,4,1").finds(1), 2);
        due("one key", byHand(1, 2, "p0,0").finds(1), 1);
    }

    @Says(promise = 18, words = "NEXT, i NONE how many, else the i-th (in order of the chain); -4: there are not so many")
    static void p18() {
        SplitBehind x = byHand(1, 2, "p9,0;p4,0;p3,0;p7,0;p2,0;p1,0");
        due("how many", x.next(NONE), 4);
        int[] in = {9, 3, 7, 1};
        for (int i = 0; i < 4; i++) due("the " + i + "-th", x.next(i), in[i]);
        due("the 4th", x.next(4), -4);
        due("far", x.next(Integer.MAX_VALUE), -4);
        SplitBehind none = byHand(1, 2, "n0,3,2");
        due("none goes", none.next(NONE), 0);
        due("so there is no first", none.next(0), -4);
        due("no keys", byHand(1, 2, "").next(NONE), 0);
    }

    @Says(promise = 18, words = "-3: there are 64 BUCKETS; -9: no such i (below NONE).")
    static void p18No() {
        SplitBehind x = byHand(1, 2, "n0,60,1");
        splitUpTo(x, 63);
        due("63", x.next(NONE), 0);
        due("no such i, of 63", x.next(-2), -9);
        x.split();
        due("64", x.next(NONE), -3);
        due("64, i 0", x.next(0), -3);
        due("64, not so many", x.next(Integer.MAX_VALUE), -3);
        due("no such i comes first", x.next(-2), -9);
        due("the least i", x.next(Integer.MIN_VALUE), -9);
        x.join();
        due("63 again", x.next(0), -4);
    }

    @Says(promise = 19, words = "PARTED: B; -2: never; NONE: no such KEYS, like ones.")
    static void p19() {
        SplitBehind x = byHand(1, 2, "");
        due("by 2", x.parted(0, 65535), 2);
        due("by 64", x.parted(31, 63), 64);
        due("never", x.parted(0, 64), -2);
        bounds("key", k -> x.parted(k, 100), 0, 65535, NONE);
        bounds("other", k -> x.parted(100, k), 0, 65535, NONE);
        for (int key : new int[] {0, 7, 65535}) due("like ones", x.parted(key, key), NONE);
        due("hashes alike are not like ones", Texts.made(1, 2, 300, 0, 0, "7", "").parted(1, 2), -2);
    }

    @Says(promise = 20, words = "ENOUGH for so many KEYS (1 to 300); -2: not by 64; NONE: no such number.")
    static void p20() {
        SplitBehind x = byHand(2, 2, "n0,9,1");
        bounds("keys", x::enough, 1, 300, NONE);
        due("for 300", x.enough(300), 2);
        due("for 1", x.enough(1), 9);
        SplitBehind never = byHand(2, 2, "p0,0;p64,0");
        due("not by 64", never.enough(1), -2);
        due("2 are let be", never.enough(2), 2);
        due("by 64", byHand(2, 2, "p31,0;p63,0").enough(1), 64);
    }

    @Says(promise = 21, words = "ANEW in b, what 0 PAGES, 1 the longest chain's PAGES, 2 BUCKETS without KEYS, 3 READS of all KEYS' FINDS (the KEYS of a BUCKET in ORDER); NONE: no such ones.")
    static void p21() {
        for (int n = 1; n <= 4; n++) {
            SplitBehind x = Texts.made(n, 3, 300, 0, 0, "k*3", "n0,60,1");
            SplitBehind split = Texts.made(n, 3, 300, 0, 0, "k*3", "n0,60,1");
            for (int what = 0; what <= 3; what++) {
                int w = what;
                bounds("b, what " + w, b -> x.anew(b, w), n, 64, NONE);
            }
            bounds("what", w -> x.anew(10, w), 0, 3, NONE);
            for (int b = n; b <= 64; b++) {
                due("pages in " + b, x.anew(b, 0), split.fileIs(9));
                due("the longest in " + b, x.anew(b, 1), split.fileIs(13));
                due("without keys in " + b, x.anew(b, 2), split.fileIs(14));
                due("reads in " + b, x.anew(b, 3), split.finds(0));
                split.split();
            }
        }
        SplitBehind none = byHand(1, 2, "");
        due("no keys, without keys", none.anew(64, 2), 64);
        due("no keys, reads", none.anew(64, 3), 0);
        SplitBehind full = byHand(1, 2, ALL_300);
        due("300 in one, reads", full.anew(1, 3), 150 * 151);
        due("300 in one, the longest", full.anew(1, 1), 150);
    }

    @Says(promise = 22, words = "TORN by a kind (0, 1) behind w WRITES, what 0 LOST, 1 DOUBLE; -3: there are 64 BUCKETS; -4: it has not so many WRITES; NONE: no such ones (w below 0).")
    static void p22() {
        SplitBehind x = byHand(1, 2, "n0,7,1");
        bounds("kind", kind -> x.torn(kind, 1, 0), 0, 1, NONE);
        bounds("what", what -> x.torn(0, 1, what), 0, 1, NONE);
        for (int w : new int[] {Integer.MIN_VALUE, -2, -1}) due("w " + w, x.torn(0, w, 0), NONE);
        due("w 0", x.torn(0, 0, 0), 0);
        due("w 2, lost", x.torn(0, 2, 0), 2);
        due("w 2, double", x.torn(1, 2, 1), 2);
        due("all 4", x.torn(0, 4, 0), 0);
        due("5", x.torn(0, 5, 0), -4);
        due("as many as can be", x.torn(1, Integer.MAX_VALUE, 1), -4);
        splitUpTo(x, 63);
        due("63, 2 writes", x.torn(0, 2, 0), 0);
        due("63, 3 writes", x.torn(0, 3, 0), -4);
        x.split();
        due("64", x.torn(0, 0, 0), -3);
        due("64, not so many", x.torn(1, 1000, 1), -3);
        due("64, NONE first", x.torn(0, -1, 0), NONE);
        due("64, no such kind", x.torn(2, 0, 0), NONE);
        due("64, no such what", x.torn(0, 0, 2), NONE);
        // all 300 in one: 150 pages to write, and one of the new bucket
        SplitBehind full = Texts.made(1, 2, 300, 0, 0, "0", ALL_300);
        due("151 writes", full.torn(0, 151, 0), 0);
        due("152 writes", full.torn(0, 152, 0), -4);
    }

    public static void main(String[] args) throws IllegalAccessException {
        runAll(PromiseBoundsTest.class);
    }
}
