import java.util.HashMap;
import java.util.Map;

/** "Terms" of what is reckoned from the file: order, scans, where, torn, grown, tuned, signs, kept, each at its bounds. */
public final class ReckonedBoundsTest extends Sentences {
    private static final int[] SOME_KEYS = {0, 1, 2, 3, 31, 32, 47, 48, 63, 64, 95, 96, 4095, 32768, 65534, 65535};

    @Says(promise = 0, words = "ORDER of KEYS: by HASH modulo N, then by HASH by N (cut), its 16 bits in reverse, then by KEY.")
    static void order() {
        // in reverse 0 1 2 32768 49152 65535
        dueRow("N 1", inOrderOf(byHand(1, 6, "p65535,0;p3,0;p1,0;p16384,0;p32768,0;p0,0")), 0, 32768, 16384, 1, 3, 65535);
        // by 4: 0, 1 and 16383
        dueRow("N 4", inOrderOf(byHand(4, 6, "p65535,0;p65532,0;p3,0;p4,0;p0,0")), 0, 4, 65532, 3, 65535);
        // by 3: 0, 2, 1 and 21845, which is 5555
        dueRow("N 3", inOrderOf(byHand(3, 6, "p65535,0;p3,0;p6,0;p0,0;p1,0;p65534,0")), 0, 6, 3, 65535, 1, 65534);
        dueRow("like hashes, by key", inOrderOf(Texts.made(2, 6, 300, 0, 0, "k%10", "p25,0;p65535,0;p5,0;p15,0")), 5, 15, 25, 65535);
        dueRow("by hash, not by key", inOrderOf(Texts.made(1, 6, 300, 0, 0, "~k", "p0,0;p65535,0")), 65535, 0);
        dueRow("one key", inOrderOf(byHand(1, 6, "p9,0")), 9);
        SplitBehind x = byHand(2, 3, "n0,9,1");
        int[] before = inOrderOf(x);
        splitUpTo(x, 64);
        dueRow("whatever is split", inOrderOf(x), before);
    }

    @Says(promise = 0, words = "A SCAN (0 to 3) tells KEYS in ORDER, each time the first one behind that it told last")
    static void scanTells() {
        SplitBehind x = byHand(2, 3, "n0,5,1");
        for (int s = 0; s < 4; s++) due("scan " + s, x.scan(), s);
        bounds("scan", s -> x.scanIs(s, 0), 0, 3, NONE);
        // 0 4 2 1 3
        due("the first one", x.tell(3), 0);
        due("the second one", x.tell(3), 4);
        Texts.work(x, "d4;p8,0;p6,0");
        // 0 8 (4) 2 6 1 3
        due("behind one that is gone", x.tell(3), 2);
        Texts.work(x, "p4,0;d2;p2,0");
        due("one that comes again is not told again", x.tell(3), 6);
        due("then 1", x.tell(3), 1);
        due("then 3", x.tell(3), 3);
        due("none more", x.tell(3), -2);
        Texts.work(x, "p7,0");
        due("one that came behind the last one", x.tell(3), 7);
        due("another scan goes by itself", x.tell(2), 0);
        SplitBehind alike = Texts.made(2, 3, 300, 0, 0, "7", "n0,5,1");
        alike.scan();
        for (int i = 0; i < 5; i++) due("keys of one hash, " + i, alike.tell(0), i);
        due("none more of one hash", alike.tell(0), -2);
    }

    @Says(promise = 0, words = "so it tells each KEY that is there all the time just once, whatever is PUT, DROPPED, SPLIT, JOINED between.")
    static void eachKeyOnce() {
        for (int n = 1; n <= 4; n++) {
            for (int policy = 0; policy <= 2; policy++) {
                SplitBehind x = Texts.made(n, 3, 80, 40, policy, "k*7+3", "n0,40,100");
                x.scan();
                Map<Integer, Integer> told = new HashMap<>();
                int key = 0;
                for (int i = 0; i < 400 && key >= 0; i++) {
                    key = x.tell(0);
                    told.merge(key, 1, Integer::sum);
                    String step = new String[] {"s", "n5,9,700", "j", "d5;d705;d1405", "s;s", "n9,20,30", "j;j;j"}[i % 7];
                    Texts.work(x, step);
                }
                for (int i = 0; i < 40; i++) due("key " + 100 * i + ", N " + n + ", policy " + policy, told.getOrDefault(100 * i, 0), 1);
                due("it ended", told.getOrDefault(-2, 0), 1);
            }
        }
    }

    @Says(promise = 0, words = "(It goes by N and THE LAW as they are.)")
    static void scanGoesByTheLaw() {
        SplitBehind x = byHand(1, 3, "p0,0;p5,0");
        x.scan();
        due("0 is the first by k", x.tell(0), 0);
        Texts.work(x, "d0;d5");
        Texts.law(x, "~k");
        Texts.work(x, "p0,0;p5,0");
        due("by ~k 5 stands ahead of 0", x.scanIs(0, 1), 0);
        due("so none is behind it", x.tell(0), -2);
        Texts.work(x, "d0;d5");
        Texts.law(x, "k");
        Texts.work(x, "p0,0;p5,0");
        due("by k it is behind again", x.tell(0), 5);
    }

    @Says(promise = 0, words = "WHERE in B: the ADDRESS of a KEY if there were B BUCKETS (N to 64).")
    static void where() {
        for (int n = 1; n <= 4; n++) {
            SplitBehind asked = byHand(n, 2, "");
            SplitBehind split = byHand(n, 2, "");
            bounds("where in", b -> asked.where(65535, b), n, 64, NONE);
            for (int b = n; b <= 64; b++) {
                for (int key : SOME_KEYS) due("key " + key + " in " + b + ", N " + n, asked.where(key, b), split.keyIs(key, 1));
                split.split();
            }
        }
    }

    @Says(promise = 0, words = "MOVES of a KEY: at how many of B N + 1 to 64 it is WHERE it was not with one fewer.")
    static void moves() {
        int[][] of = {{1, 0, 0}, {1, 1, 1}, {1, 32, 1}, {1, 63, 6}, {1, 64, 0}, {1, 65535, 6}, {2, 2, 1}, {2, 63, 5}, {2, 1, 0},
            {3, 3, 1}, {3, 63, 3}, {3, 15, 2}, {3, 64, 2}, {4, 4, 1}, {4, 3, 0}, {4, 63, 4}, {4, 64, 0}};
        for (int[] m : of) due("key " + m[1] + ", N " + m[0], byHand(m[0], 2, "").keyIs(m[1], 2), m[2]);
        SplitBehind x = byHand(2, 2, "n0,9,1");
        splitUpTo(x, 40);
        due("whatever there is now", x.keyIs(63, 2), 5);
        SplitBehind other = byHand(4, 2, "");
        other.keep();
        other.grown(1, 0);
        other.shape(1, 2, 300, 0, 0);
        due("by N as it is, not as it was kept", other.keyIs(63, 2), 6);
    }

    @Says(promise = 0, words = "PARTED are two KEYS by the least B by which they are not in one BUCKET.")
    static void parted() {
        // N, key, other, B
        int[][] of = {{1, 0, 1, 2}, {1, 31, 63, 64}, {1, 0, 64, -2}, {1, 0, 32768, -2}, {2, 0, 1, 2}, {2, 0, 2, 3}, {2, 1, 3, 4},
            {3, 0, 1, 3}, {3, 15, 63, 64}, {3, 16, 64, -2}, {3, 0, 3, 4}, {4, 0, 65535, 4}, {4, 0, 4, 5}, {4, 31, 63, 64}};
        for (int[] p : of) {
            due(p[1] + " and " + p[2] + ", N " + p[0], byHand(p[0], 2, "").parted(p[1], p[2]), p[3]);
            due(p[2] + " and " + p[1] + ", N " + p[0], byHand(p[0], 2, "").parted(p[2], p[1]), p[3]);
        }
        SplitBehind x = byHand(1, 2, "n0,9,1");
        splitUpTo(x, 50);
        due("whatever there is now", x.parted(0, 1), 2);
    }

    @Says(promise = 0, words = "ENOUGH: the least B by which no BUCKET has more than so many KEYS.")
    static void enough() {
        for (int n = 1; n <= 4; n++) due("no keys, N " + n, byHand(n, 2, "").enough(1), n);
        due("parted by 64 alone", byHand(1, 2, "p31,0;p63,0").enough(1), 64);
        due("two are let be", byHand(1, 2, "p31,0;p63,0").enough(2), 1);
        due("never parted", byHand(1, 2, "p0,0;p64,0").enough(1), -2);
        due("300 in one", Texts.made(4, 2, 300, 0, 0, "0", ALL_300).enough(300), 4);
        due("299 of 300 in one", Texts.made(4, 2, 300, 0, 0, "0", ALL_300).enough(299), -2);
        // 0 to 7: in 2 4 4, in 3 2 4 2, in 4 2 2 2 2
        SplitBehind x = byHand(1, 2, "n0,8,1");
        int[] of = {8, 4, 4, 2, 2, 2, 2, 1};
        for (int i = 0; i < of.length; i++) due("for " + (i + 1), x.enough(i + 1), of[i]);
        splitUpTo(x, 64);
        due("whatever there is now", x.enough(8), 1);
    }

    @Says(promise = 0, words = "ANEW in B: PAGES (one at least for each BUCKET), the longest chain, if all KEYS were laid in B BUCKETS.")
    static void anew() {
        for (int n = 1; n <= 4; n++) {
            for (int c = 2; c <= 6; c++) {
                SplitBehind asked = byHand(n, c, "n0,60,3;n7,19,11");
                SplitBehind split = byHand(n, c, "n0,60,3;n7,19,11");
                SplitBehind empty = byHand(n, c, "");
                for (int b = n; b <= 64; b++) {
                    String in = " in " + b + ", N " + n + ", C " + c;
                    due("pages" + in, asked.anew(b, 0), split.fileIs(9));
                    due("the longest" + in, asked.anew(b, 1), split.fileIs(13));
                    due("no keys, pages" + in, empty.anew(b, 0), b);
                    due("no keys, the longest" + in, empty.anew(b, 1), 1);
                    split.split();
                }
            }
        }
        due("150 pages", Texts.made(1, 2, 300, 0, 0, "0", ALL_300).anew(64, 1), 150);
        due("150 pages and 63", Texts.made(1, 2, 300, 0, 0, "0", ALL_300).anew(64, 0), 213);
    }

    @Says(promise = 0, words = "ALIKE: KEYS of which another one has the same HASH.")
    static void alike() {
        due("one of each", Texts.made(2, 3, 300, 0, 0, "k%10", "n0,10,1").alike(0), 0);
        due("two", Texts.made(2, 3, 300, 0, 0, "k%10", "n0,11,1").alike(0), 2);
        due("three", Texts.made(2, 3, 300, 0, 0, "k%10", "n0,11,1;p20,0").alike(0), 3);
        due("two and two", Texts.made(2, 3, 300, 0, 0, "k%10", "n0,12,1").alike(0), 4);
        due("all 300", Texts.made(2, 3, 300, 0, 0, "7", ALL_300).alike(0), 300);
        due("one alone", Texts.made(2, 3, 300, 0, 0, "7", "p9,0").alike(0), 0);
        due("in one bucket, but not alike", byHand(1, 3, "n0,9,1").alike(0), 0);
    }

    @Says(promise = 0, words = "FINDS together: how many READS all KEYS' FINDS would have.")
    static void findsTogether() {
        for (int c = 2; c <= 6; c++) {
            SplitBehind x = byHand(2, c, "n0,30,1;n30,20,2;s");
            int want = 0;
            for (int key : inOrderOf(x)) want += x.keyIs(key, 3);
            due("C " + c, x.finds(0), want);
            dueRow("they would, they don't", costOf(x, () -> x.finds(0)), 0, 0);
        }
        due("no keys", byHand(2, 2, "").finds(0), 0);
        // 2 times 1 to 150
        due("300 in one", byHand(1, 2, ALL_300).finds(0), 150 * 151);
    }

    @Says(promise = 0, words = "NEXT: KEYS that the next SPLIT would bring to the new BUCKET.")
    static void next() {
        SplitBehind x = Texts.made(3, 2, 300, 0, 0, "k*5+1", "n0,60,1");
        for (int b = 3; b < 64; b++) {
            int[] told = new int[x.next(NONE)];
            for (int i = 0; i < told.length; i++) told[i] = x.next(i);
            due("none behind the last one", x.next(told.length), -4);
            due("so many go", x.split(), told.length);
            dueRow("these", keysOf(x, b), told);
        }
        due("64", x.next(NONE), -3);
    }

    /** Lost and double for each number of writes, one row each, and that there are no more writes than these. */
    private static void tornRows(String what, SplitBehind x, int kind, int[] lost, int[] twice) {
        for (int w = 0; w < lost.length; w++) {
            due(what + ", kind " + kind + ", " + w + " writes, lost", x.torn(kind, w, 0), lost[w]);
            due(what + ", kind " + kind + ", " + w + " writes, double", x.torn(kind, w, 1), twice[w]);
        }
        due(what + ", one write more", x.torn(kind, lost.length, 0), -4);
        due(what + ", one write more, double", x.torn(kind, lost.length, 1), -4);
    }

    @Says(promise = 0, words = {"TORN: the next SPLIT broken off behind w of its WRITES (0 to all of them)",
        "by kind 0 first PAGES of the old BUCKET, in order of its chain as it would be, then those of the new one; by kind 1 first those of the new one."})
    static void tornInOrder() {
        tornRows("no keys", byHand(1, 2, ""), 0, new int[3], new int[3]);
        tornRows("no keys", byHand(1, 2, ""), 1, new int[3], new int[3]);
        // was 01 23 45 6 in 0 1 2 3; would be 02 46 in 0 2 and 13 5 in 1 3
        SplitBehind x = byHand(1, 2, "n0,7,1");
        tornRows("half go", x, 0, new int[] {0, 1, 2, 1, 0}, new int[] {0, 1, 2, 1, 0});
        tornRows("half go", x, 1, new int[] {0, 1, 2, 1, 0}, new int[] {0, 1, 2, 1, 0});
        // was 02 46 in 0 1; would be 02 46 in 0 2 and none in 1
        SplitBehind stay = byHand(1, 2, "n0,4,2");
        tornRows("all stay", stay, 0, new int[] {0, 0, 0, 0}, new int[] {0, 0, 2, 0});
        tornRows("all stay", stay, 1, new int[] {0, 2, 2, 0}, new int[] {0, 0, 0, 0});
        // was 13 57 in 0 1; would be none in 0 and 13 57 in 1 2
        SplitBehind go = byHand(1, 2, "n1,4,2");
        tornRows("all go", go, 0, new int[] {0, 2, 2, 0}, new int[] {0, 0, 0, 0});
        tornRows("all go", go, 1, new int[] {0, 2, 0, 0}, new int[] {0, 2, 2, 0});
        // N 2, pointer 1: was 13 57 9 in 1 2 3; bucket 2 has page 4, so that it would be 15 9 in 1 3 and 37 in 2
        SplitBehind pointed = byHand(2, 2, "n1,5,2;s");
        dueRow("bucket 2's page", pagesOf(pointed, 2), 4);
        tornRows("pointer 1", pointed, 0, new int[] {0, 1, 1, 0}, new int[] {0, 1, 1, 0});
        tornRows("pointer 1", pointed, 1, new int[] {0, 1, 0, 0}, new int[] {0, 1, 0, 0});
        // pointer 2 of level 1: was 26 in 2; would be 2 in 2 and 6 in 6
        SplitBehind last = byHand(2, 2, "p2,0;p6,0;s;s;s;s");
        due("level", last.fileIs(5), 1);
        due("pointer", last.fileIs(6), 2);
        tornRows("pointer 2", last, 0, new int[] {0, 1, 0}, new int[] {0, 0, 0});
        tornRows("pointer 2", last, 1, new int[] {0, 0, 0}, new int[] {0, 1, 0});
    }

    @Says(promise = 0, words = {"A PAGE that is written has the KEYS that it would have; another one those that it had, if it was of the old BUCKET, else none.",
        "Of KEYS of the old BUCKET as it was LOST are those that stand in no PAGE then, DOUBLE those that stand in two."})
    static void tornPages() {
        // page 2 is free, 02 4 in 0 3; would be 04 in 0 and 2 in 2: page 3 is not written and keeps its 4
        SplitBehind x = byHand(2, 2, "n1,3,2;n0,3,2;d5");
        tornRows("a page that goes free keeps its keys", x, 0, new int[] {0, 1, 0}, new int[] {0, 1, 1});
        tornRows("a page that goes free keeps its keys", x, 1, new int[] {0, 0, 0}, new int[] {0, 1, 1});
        // keys of other buckets are not told: bucket 1, in pages 1 and 4, has as many again
        SplitBehind other = byHand(2, 2, "n0,4,2;n1,4,2");
        // was 02 46 in 0 2, page 3 is bucket 1's; would be 04 in 0 and 26 in 2
        tornRows("two buckets", other, 0, new int[] {0, 1, 0}, new int[] {0, 1, 0});
        tornRows("two buckets", other, 1, new int[] {0, 1, 0}, new int[] {0, 1, 0});
        due("nothing is split by asking", other.count(1), 2);
    }

    @Says(promise = 0, words = "GROWN by M: M KEYS are drawn and PUT, as by xM.")
    static void grown() {
        for (int policy = 0; policy <= 2; policy++) {
            for (String m : new String[] {"1", "2", "59", "60"}) {
                SplitBehind x = Texts.made(2, 3, 80, 40, policy, "k*3", "n0,7,5");
                SplitBehind y = Texts.made(2, 3, 80, 40, policy, "k*3", "n0,7,5");
                int[] cost = costOf(y, () -> Texts.work(y, "x" + m));
                int[] then = {y.count(1), y.fileIs(10), y.fileIs(9), y.count(0), cost[0], cost[1]};
                for (int what = 0; what < 6; what++) {
                    due("by " + m + ", policy " + policy + ", what " + what, x.grown(Integer.parseInt(m), what), then[what]);
                }
            }
        }
        SplitBehind full = byHand(1, 2, ALL_300);
        int[] stays = {1, 15000, 150, 300, 0, 0};
        for (int what = 0; what < 6; what++) due("300 do not grow, what " + what, full.grown(99, what), stays[what]);
        SplitBehind nearly = byHand(1, 2, "n0,60,1;n60,60,1;n120,60,1;n180,60,1;n240,59,1");
        due("299 grow by one", nearly.grown(99, 3), 300);
        due("which reads 150", nearly.grown(99, 4), 150);
        SplitBehind most = Texts.made(4, 2, 50, 0, 1, "k", "n0,60,1;n60,60,1;n120,60,1");
        due("64 buckets stay", most.grown(99, 0), 64);
    }

    @Says(promise = 0, words = "TUNED: of FILES with C 2 to 6, all else as now, into each of which all KEYS are PUT in ORDER (empty at first), the best one, of like ones the least C.")
    static void tuned() {
        // one bucket by hand: k keys
        int[] byReads = {2, 2, 2, 3, 4, 5, 6, 6};
        int[] byPlaces = {2, 2, 2, 3, 2, 5, 2, 2};
        for (int k = 0; k < 8; k++) {
            SplitBehind x = byHand(1, 3, k == 0 ? "" : "n0," + k + ",1");
            due("reads of " + k, x.tuned(0), byReads[k]);
            due("places of " + k, x.tuned(1), byPlaces[k]);
        }
        // three keys by load, C 2 3 4: UP 80 splits 2 and 3, UP 100 splits 2 alone, UP 150 splits none
        int[][] ups = {{80, 2, 2}, {100, 2, 3}, {150, 3, 3}};
        for (int[] up : ups) {
            SplitBehind x = Texts.made(1, 5, up[0], 0, 1, "k", "n0,3,1");
            due("UP " + up[0] + " as now, reads", x.tuned(0), up[1]);
            due("UP " + up[0] + " as now, places", x.tuned(1), up[2]);
        }
        for (int n = 1; n <= 4; n++) {
            for (int policy = 0; policy <= 2; policy++) {
                SplitBehind x = Texts.made(n, 4, 90, 30, policy, "k*5+2", "n3,45,7;n1000,60,1;s;s");
                int reads = 0;
                int places = 0;
                int[] best = {0, 0};
                for (int c = 2; c <= 6; c++) {
                    SplitBehind y = Texts.made(n, c, 90, 30, policy, "k*5+2", "");
                    for (int key : inOrderOf(x)) y.put(key, 0);
                    if (c == 2 || y.finds(0) < reads) best[0] = c;
                    if (c == 2 || y.fileIs(9) * c < places) best[1] = c;
                    reads = c == 2 ? y.finds(0) : Math.min(reads, y.finds(0));
                    places = c == 2 ? y.fileIs(9) * c : Math.min(places, y.fileIs(9) * c);
                }
                for (int what = 0; what < 2; what++) due("N " + n + ", policy " + policy + ", what " + what, x.tuned(what), best[what]);
            }
        }
    }

    @Says(promise = 0, words = {"SIGN of a KEY: bits HASH by 4096 and HASH modulo 16", "SIGNS of a BUCKET: all bits of SIGNS of its KEYS"})
    static void signs() {
        int[][] of = {{0, 1}, {1, 3}, {15, 1 | 1 << 15}, {16, 1}, {4095, 1 | 1 << 15}, {4096, 1 << 1 | 1}, {61440, 1 << 15 | 1},
            {65535, 1 << 15}, {61439, 1 << 14 | 1 << 15}};
        for (int[] s : of) due("of " + s[0], byHand(1, 2, "p" + s[0] + ",0").signs(0), s[1]);
        due("no keys", byHand(1, 2, "").signs(0), 0);
        due("of the hash, not of the key", Texts.made(1, 2, 300, 0, 0, "~k", "p0,0").signs(0), 1 << 15);
        SplitBehind x = byHand(2, 2, "p0,0;p4098,0;p61455,0");
        due("all of bucket 0", x.signs(0), 1 | 1 << 1 | 1 << 2);
        due("all of bucket 1", x.signs(1), 1 << 15);
        due("all 300", Texts.made(1, 2, 300, 0, 0, "k*257", ALL_300).signs(0), 65535);
        x.drop(4098);
        due("of those that are there", x.signs(0), 1);
    }

    @Says(promise = 0, words = "a KEY PASSES if both its bits are in SIGNS of the BUCKET of its ADDRESS.")
    static void passes() {
        due("no keys, none", byHand(1, 2, "").passed(0), 0);
        // bits 0 and 5: of 0 to 255, which have bit 0, those with 0 or 5 modulo 16, but for 5 itself
        due("both bits", byHand(1, 2, "p5,0").passed(0), 16 + 16 - 1);
        // 4096 to 4351 have bit 1, which is not there
        due("one of both is not enough", byHand(1, 2, "p5,0").passed(4096), 0);
        // in two buckets 5's is 1: of it those with 5 modulo 16 (0 is even)
        due("of its own bucket", byHand(2, 2, "p5,0").passed(0), 16 - 1);
        // by k/2 key 10 has hash 5, in bucket 1: of hashes 0 to 127 those with 5 modulo 16, two keys each, but for 10
        due("by its hash", Texts.made(2, 2, 300, 0, 0, "k/2", "p10,0").passed(0), 16 - 1);
        due("all bits: all that are not there", Texts.made(1, 2, 300, 0, 0, "k*257", ALL_300).passed(1000), 256);
    }

    @Says(promise = 0, words = {"KEPT is all of THE FILE (THE LAW, SCANS, X, READS and WRITES, too)", "UNDONE: as it was KEPT last."})
    static void kept() {
        SplitBehind x = Texts.made(2, 3, 80, 40, 1, "k*3", "n0,9,1;x2;g1;s;j;j");
        x.scan();
        x.tell(0);
        due("joins", x.fileIs(16), 2);
        int[] file = new int[17];
        for (int i = 0; i < 17; i++) file[i] = x.fileIs(i);
        int[] order = inOrderOf(x);
        int drawn = x.count(3);
        x.keep();
        Texts.work(x, "p0,99;y9;s;x5;j;j;j");
        x.tell(0);
        x.scan();
        x.shape(4, 6, 300, 0, 2);
        Texts.law(x, "k");
        for (int times = 0; times < 2; times++) {
            due("undone", x.undo(), true);
            for (int i = 0; i < 17; i++) due("fileIs(" + i + ")", x.fileIs(i), file[i]);
            dueRow("keys in order", inOrderOf(x), order);
            due("the law", x.keyIs(1, 0), 3);
            due("X", x.count(3), drawn);
            due("scans", x.count(4), 1);
            due("what the scan told", x.scanIs(0, 0), 1);
            due("the scan's last one", x.scanIs(0, 2), order[0]);
            due("a value", x.find(0), 0);
            x.drop(order[3]);
        }
        x.keep();
        x.put(0, 5);
        x.undo();
        due("the one that was kept last, not the one before", x.between(order[3], order[3]), 0);
        due("with its values", x.find(0), 0);
    }

    @Says(promise = 0, words = {"KEPT is all of THE FILE", "UNDONE: as it was KEPT last."})
    static void keptPages() {
        // pages 0 1 2 3 at places 0 1 2 3; behind the split page 2 is at place 1, pages 1 and 3 are bucket 1's
        SplitBehind x = byHand(1, 2, "n0,7,1");
        x.keep();
        x.split();
        due("page 2 is elsewhere", x.page(2, 1), 1);
        x.undo();
        for (int p = 0; p < 4; p++) {
            due("bucket of page " + p, x.page(p, 0), 0);
            due("place of page " + p, x.page(p, 1), p);
            due("keys of page " + p, x.page(p, 2), p < 3 ? 2 : 1);
            due("first key of page " + p, x.page(p, 10), 2 * p);
        }
        due("page 4 is free", x.page(4, 0), -2);
        due("reads of all finds", x.finds(0), 1 + 1 + 2 + 2 + 3 + 3 + 4);
        dueRow("reads of one", costOf(x, () -> x.find(5)), 3, 0);
    }

    @Says(promise = 0, words = "CHECK: VALUES of KEYS in ORDER: right, or the first that is not so.")
    static void check() {
        // 0 4 2 1 3
        int[] order = {0, 4, 2, 1, 3};
        for (int spoilt = -1; spoilt < 5; spoilt++) {
            SplitBehind x = byHand(2, 3, "n0,5,1");
            StringBuilder bytes = new StringBuilder();
            for (int i = 0; i < 5; i++) bytes.append((char) (order[i] + (i == spoilt || spoilt >= 0 && i > spoilt ? 1 : 0)));
            Texts.feed(x, bytes.toString());
            due("the first that is not so: " + spoilt, x.check(5), spoilt);
        }
    }

    @Says(promise = 0, words = "All memory is the file's own.")
    static void ownMemory() {
        SplitBehind x = byHand(1, 2, "n0,9,1");
        SplitBehind y = Texts.made(3, 4, 80, 40, 1, "~k", "n50,7,1;s");
        x.keep();
        y.scan();
        due("keys of the one", x.count(0), 9);
        due("keys of the other", y.count(0), 7);
        due("the one's law", x.keyIs(5, 0), 5);
        due("the one's scans", x.count(4), 0);
        due("the other has nothing kept", y.undo(), false);
    }

    public static void main(String[] args) throws IllegalAccessException {
        runAll(ReckonedBoundsTest.class);
    }
}
