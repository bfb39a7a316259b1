/** "Terms" of the file: keys, buckets, pages, load, put, drop, split, join, reads and writes, each at its bounds. */
public final class FileBoundsTest extends Sentences {
    /** Buckets at which the pointer is 0, for each N. */
    private static final int[][] ROUNDS = {{}, {1, 2, 4, 8, 16, 32, 64}, {2, 4, 8, 16, 32, 64}, {3, 6, 12, 24, 48}, {4, 8, 16, 32, 64}};

    @Says(promise = 0, words = "KEYS are 0 to 65535")
    static void keys() {
        SplitBehind x = byHand(2, 3, "");
        bounds("put of", k -> x.put(k, 0), 0, 65535, NONE);
        due("the two ends are there, no others", x.count(0), 2);
        dueRow("0 in bucket 0", keysOf(x, 0), 0);
        dueRow("65535 in bucket 1", keysOf(x, 1), 65535);
    }

    @Says(promise = 0, words = "VALUES 0 to 255")
    static void values() {
        SplitBehind x = byHand(2, 3, "");
        bounds("value", v -> x.put(7, v), 0, 255, NONE);
        due("255 stays", x.find(7), 255);
        x.put(7, 0);
        due("0 stays", x.find(7), 0);
    }

    @Says(promise = 0, words = "300 KEYS at most")
    static void threeHundredKeys() {
        for (int policy = 0; policy <= 2; policy++) {
            SplitBehind x = Texts.made(2, 3, 80, 40, policy, "k", "n0,60,1;n60,60,1;n120,60,1;n180,60,1;n240,59,1");
            due("299", x.count(0), 299);
            due("a 300th", x.put(299, 1), 0);
            due("a 301st", x.put(300, 1), -3);
            due("300 stay", x.count(0), 300);
            due("one that is there is no 301st", x.put(0, 9), 1);
            due("one goes", x.drop(7), 7);
            due("another one comes", x.put(300, 1), 0);
            due("and no more", x.put(7, 1), -3);
        }
    }

    @Says(promise = 0, words = "THE FILE: N first BUCKETS (1 to 4; at first 2)")
    static void firstBuckets() {
        SplitBehind x = new SplitBehind();
        due("at first", x.fileIs(0), 2);
        due("at first there are 2", x.count(1), 2);
        bounds("N", n -> asInt(x.shape(n, 3, 80, 40, 1)), 1, 4, 0);
        for (int n = 1; n <= 4; n++) {
            x.shape(n, 3, 80, 40, 1);
            due("N is told", x.fileIs(0), n);
            due("there are N", x.count(1), n);
        }
    }

    @Says(promise = 0, words = "C (2 to 6; 3): how many KEYS a PAGE has at most")
    static void keysOfAPage() {
        SplitBehind x = new SplitBehind();
        due("at first", x.fileIs(1), 3);
        bounds("C", c -> asInt(x.shape(1, c, 80, 40, 1)), 2, 6, 0);
        for (int c = 2; c <= 6; c++) {
            SplitBehind y = byHand(1, c, "n0," + c + ",1");
            due("C is told", y.fileIs(1), c);
            due("C keys are in one page", y.fileIs(9), 1);
            due("it has C", y.page(0, 2), c);
            y.put(c, 0);
            due("one more takes another page", y.fileIs(9), 2);
            due("the first one has C still", y.page(0, 2), c);
            due("the other one has it", y.page(1, 10), c);
        }
    }

    @Says(promise = 0, words = "UP (50 to 300; 80)")
    static void up() {
        SplitBehind x = new SplitBehind();
        due("at first", x.fileIs(2), 80);
        bounds("UP", up -> asInt(x.shape(1, 2, up, 40, 1)), 50, 300, 0);
        SplitBehind low = Texts.made(1, 2, 50, 0, 1, "k", "p0,0");
        due("UP 50: load 50", low.count(1), 1);
        low.put(1, 0);
        due("UP 50: load 100", low.count(1), 2);
        SplitBehind high = Texts.made(1, 2, 300, 0, 1, "k", "n0,6,1");
        due("UP 300: load 300", high.fileIs(10), 300);
        due("UP 300 is told", high.fileIs(2), 300);
        due("no split", high.count(1), 1);
        high.put(6, 0);
        due("UP 300: load 350", high.count(1), 2);
    }

    @Says(promise = 0, words = "DOWN (0 to 49; 40)")
    static void down() {
        SplitBehind x = new SplitBehind();
        due("at first", x.fileIs(3), 40);
        bounds("DOWN", down -> asInt(x.shape(1, 2, 80, down, 1)), 0, 49, 0);
        SplitBehind none = Texts.made(1, 2, 300, 0, 1, "k", "p0,0;s;d0");
        due("DOWN 0: load 0 is not below it", none.count(1), 2);
        // 25 buckets of 4: each key is 1 of load
        SplitBehind most = Texts.made(1, 4, 300, 49, 1, "k", "n0,50,1");
        splitUpTo(most, 25);
        due("DOWN 49 is told", most.fileIs(3), 49);
        most.drop(0);
        due("load 49", most.fileIs(10), 49);
        due("is not below 49", most.count(1), 25);
        most.drop(1);
        due("load 48 is", most.count(1), 24);
    }

    @Says(promise = 0, words = "POLICY (0 by hand alone, 1 by LOAD, 2 by PAGES; 1)")
    static void policy() {
        SplitBehind x = new SplitBehind();
        due("at first", x.fileIs(4), 1);
        bounds("POLICY", p -> asInt(x.shape(1, 2, 80, 40, p)), 0, 2, 0);
        // two keys of one page: load 100, above 50, but no new page; a third one: a new page, load 75 of two buckets
        int[][] buckets = {{1, 1}, {2, 3}, {1, 2}};
        for (int p = 0; p <= 2; p++) {
            SplitBehind y = Texts.made(1, 2, 50, 0, p, "k", "n0,2,1");
            due("POLICY is told", y.fileIs(4), p);
            due("by load, policy " + p, y.count(1), buckets[p][0]);
            y.put(2, 0);
            due("by a page, policy " + p, y.count(1), buckets[p][1]);
        }
        SplitBehind hand = Texts.made(1, 2, 50, 49, 0, "k", "n0,2,1;s;d0;d1");
        due("by hand alone nothing is joined", hand.count(1), 2);
    }

    @Says(promise = 0, words = {"LEVEL L (0 at first), POINTER P (0 at first; below N times 2 to the power of L)",
        "P is 1 more; if it is N 2^L then, L is 1 more and P 0."})
    static void levelAndPointerOfSplits() {
        for (int n = 1; n <= 4; n++) {
            SplitBehind x = byHand(n, 2, "");
            int level = 0;
            for (int b = n; b <= 64; b++) {
                if (level + 1 < ROUNDS[n].length && ROUNDS[n][level + 1] == b) level++;
                due("level of " + b + ", N " + n, x.fileIs(5), level);
                due("pointer of " + b + ", N " + n, x.fileIs(6), b - ROUNDS[n][level]);
                x.split();
            }
        }
    }

    @Says(promise = 0, words = "JOIN: if P is 0, L is 1 less and P is N 2^L; P is 1 less")
    static void levelAndPointerOfJoins() {
        for (int n = 1; n <= 4; n++) {
            SplitBehind x = byHand(n, 2, "");
            splitUpTo(x, 64);
            int level = ROUNDS[n].length - 1;
            for (int b = 63; b >= n; b--) {
                due("a join", x.join(), 0);
                if (ROUNDS[n][level] > b) level--;
                due("level of " + b + ", N " + n, x.fileIs(5), level);
                due("pointer of " + b + ", N " + n, x.fileIs(6), b - ROUNDS[n][level]);
            }
            due("N alone", x.join(), -3);
        }
    }

    @Says(promise = 0, words = "BUCKETS 0 to N 2^L + P less 1; 64 at most.")
    static void buckets() {
        for (int n = 1; n <= 4; n++) {
            SplitBehind x = byHand(n, 2, "");
            for (int b = n; b <= 64; b++) {
                due("there are " + b, x.count(1), b);
                due("the last one", x.bucket(b - 1, 0), 0);
                due("none behind it", x.bucket(b, 0), NONE);
                due("none ahead of 0", x.bucket(-1, 0), NONE);
                due("split of " + b, x.split(), b < 64 ? 0 : -3);
            }
            due("64 stay", x.count(1), 64);
        }
    }

    @Says(promise = 0, words = "HASH of a KEY: 0 to 65535, by THE LAW (at first as \"k\").")
    static void hash() {
        SplitBehind x = new SplitBehind();
        for (int key : new int[] {0, 1, 32767, 32768, 65534, 65535}) due("at first, of " + key, x.keyIs(key, 0), key);
        Texts.law(x, "k+1");
        due("65535 comes to 0", x.keyIs(65535, 0), 0);
        due("65534 comes to 65535", x.keyIs(65534, 0), 65535);
    }

    @Says(promise = 0, words = "ADDRESS of a KEY: its HASH modulo N 2^L; if that is below P, its HASH modulo N 2^(L + 1).")
    static void address() {
        // N 3: 5 buckets are level 0, pointer 2
        SplitBehind x = byHand(3, 2, "");
        int[] by3 = {0, 1, 2, 0, 1, 2, 0, 1, 2};
        for (int k = 0; k < 9; k++) due("pointer 0: key " + k, x.keyIs(k, 1), by3[k]);
        Texts.work(x, "s;s");
        int[] by5 = {0, 1, 2, 3, 4, 2, 0, 1, 2, 3, 4, 2};
        for (int k = 0; k < 12; k++) due("pointer 2: key " + k, x.keyIs(k, 1), by5[k]);
        x.split();
        int[] by6 = {0, 1, 2, 3, 4, 5, 0, 1, 2, 3, 4, 5};
        for (int k = 0; k < 12; k++) due("pointer 0 of level 1: key " + k, x.keyIs(k, 1), by6[k]);
        splitUpTo(x, 64);
        // 48 and pointer 16
        due("15 is below 16", x.keyIs(15 + 48, 1), 63);
        due("16 is not", x.keyIs(16 + 48, 1), 16);
        due("65535 is 15 of 48 and 63 of 96", x.keyIs(65535, 1), 63);
        due("by its hash, not by itself", Texts.made(3, 2, 300, 0, 0, "k*2", "").keyIs(2, 1), 1);
    }

    @Says(promise = 0, words = "PAGES 0 to 255.")
    static void pages() {
        SplitBehind x = byHand(2, 2, "");
        bounds("page", p -> x.page(p, 0), 0, 255, NONE);
        due("255 is free", x.page(255, 0), -2);
        // all keys in one bucket: 150 pages of 2, and 63 buckets of one
        SplitBehind most = Texts.made(1, 2, 300, 0, 0, "0", ALL_300);
        splitUpTo(most, 64);
        due("the most that can be needed", most.fileIs(9), 213);
        due("the longest", most.fileIs(13), 150);
        due("all keys are there", most.bucket(0, 0), 300);
        for (int p = 213; p < 256; p++) due("free is " + p, most.page(p, 0), -2);
        for (int p = 0; p < 213; p++) due("not free is " + p, most.page(p, 0) >= 0, true);
    }

    @Says(promise = 0, words = "Each BUCKET is a chain of PAGES, one at least")
    static void onePageAtLeast() {
        SplitBehind x = byHand(2, 2, "s;n0,3,4;d0;d4;d8");
        for (int b = 0; b < 3; b++) due("empty bucket " + b, x.bucket(b, 1), 1);
        due("three pages", x.fileIs(9), 3);
        x.join();
        due("joined", x.bucket(0, 1), 1);
        due("two pages", x.fileIs(9), 2);
    }

    @Says(promise = 0, words = "KEYS stand in them one behind the other, each PAGE but the last one full.")
    static void pagesAreFull() {
        SplitBehind x = byHand(1, 3, "n0,7,1;d1;d5");
        // 0 6 2 | 3 4: 6 came to the place of 1, then 5 was the last one
        dueRow("keys", keysOf(x, 0), 0, 6, 2, 3, 4);
        dueRow("pages", pagesOf(x, 0), 0, 1);
        due("the first page is full", x.page(0, 2), 3);
        due("the last one has the rest", x.page(1, 2), 2);
        for (int i = 0; i < 5; i++) due("key " + i, x.page(i / 3, 10 + i % 3), x.bucket(0, 1000 + i));
    }

    @Says(promise = 0, words = "A PAGE that is needed is the one of the lowest number that is free.")
    static void lowestPage() {
        // bucket 1 has 1 2, bucket 0 has 0 3; by d5 page 2 goes free
        SplitBehind x = byHand(2, 2, "n1,3,2;n0,3,2;d5");
        dueRow("bucket 0", pagesOf(x, 0), 0, 3);
        due("page 2 is free", x.page(2, 0), -2);
        Texts.work(x, "p6,0;p8,0");
        dueRow("2 comes ahead of 4", pagesOf(x, 0), 0, 3, 2);
        Texts.work(x, "p10,0;p12,0");
        dueRow("then 4", pagesOf(x, 0), 0, 3, 2, 4);
    }

    @Says(promise = 0, words = "At first BUCKETS 0 to N less 1 have PAGES 0 to N less 1.")
    static void firstPages() {
        for (int n = 1; n <= 4; n++) {
            SplitBehind x = byHand(n, 2, "");
            for (int b = 0; b < n; b++) dueRow("bucket " + b, pagesOf(x, b), b);
            due("the page behind is free", x.page(n, 0), -2);
        }
        dueRow("of a new object", pagesOf(new SplitBehind(), 1), 1);
    }

    @Says(promise = 0, words = "LOAD: 100 times the KEYS by BUCKETS times C, cut.")
    static void load() {
        SplitBehind x = byHand(2, 3, "");
        int[] loads = {0, 16, 33, 50, 66, 83, 100, 116};
        for (int i = 0; i < loads.length; i++) {
            due(i + " keys in 6 places", x.fileIs(10), loads[i]);
            x.put(i, 0);
        }
        x.split();
        due("8 keys in 9 places", x.fileIs(10), 88);
        due("the highest", byHand(1, 2, ALL_300).fileIs(10), 15000);
    }

    @Says(promise = 0, words = "PUT: a KEY that is there gets the VALUE.")
    static void putOfOneThatIsThere() {
        SplitBehind x = Texts.made(1, 2, 50, 0, 2, "k", "n0,2,1");
        due("there", x.put(1, 200), 1);
        due("its value", x.find(1), 200);
        due("the other's value", x.find(0), 0);
        dueRow("its place", keysOf(x, 0), 0, 1);
        SplitBehind full = Texts.made(1, 2, 300, 0, 0, "k", ALL_300);
        due("of 300, the first", full.put(0, 77), 1);
        due("of 300, the last", full.put(299, 78), 1);
        due("its value, of 300", full.find(299), 78);
        // by k/2 keys 2 and 3 have hash 1, whatever is put of them again
        SplitBehind again = Texts.made(1, 2, 300, 0, 0, "k/2", "n0,4,1;p2,9;p1,9;s");
        dueRow("put again and split: those that stay", keysOf(again, 0), 0, 1);
        dueRow("put again and split: those that go", keysOf(again, 1), 2, 3);
        // load 100 is above 50, but by a key that is there nothing is split
        SplitBehind load = Texts.made(1, 2, 50, 0, 0, "k", "n0,2,1");
        load.put(0, 9);
        due("no split", load.count(1), 1);
    }

    @Says(promise = 0, words = "Else it comes behind the last one of the BUCKET of its ADDRESS (if the last PAGE is full, in a new PAGE behind it)")
    static void putOfANewOne() {
        SplitBehind x = byHand(2, 2, "p9,0;p4,0;p7,0");
        dueRow("9, then 7", keysOf(x, 1), 9, 7);
        dueRow("one page, full", pagesOf(x, 1), 1);
        x.put(1, 0);
        dueRow("behind the last one", keysOf(x, 1), 9, 7, 1);
        dueRow("in a new page", pagesOf(x, 1), 1, 2);
        x.put(3, 0);
        dueRow("which has room", pagesOf(x, 1), 1, 2);
        dueRow("the other bucket has its own", keysOf(x, 0), 4);
    }

    @Says(promise = 0, words = "then, by POLICY 1 if LOAD is above UP")
    static void splitByLoad() {
        // 10 buckets of 5: each key is 2 of load
        for (int up = 50; up <= 51; up++) {
            SplitBehind x = Texts.made(1, 5, up, 0, 1, "k", "");
            splitUpTo(x, 10);
            Texts.work(x, "n0,25,1");
            due("load 50", x.fileIs(10), 50);
            due("is not above " + up, x.count(1), 10);
            x.put(25, 0);
            due("load 52 is above " + up + ": one split", x.count(1), 11);
            due("counted", x.fileIs(15), 10);
        }
        // load 83 and a part: cut it is not above 83
        SplitBehind cut = Texts.made(2, 3, 83, 0, 1, "k", "n0,5,1");
        due("what is cut is not above", cut.count(1), 2);
    }

    @Says(promise = 0, words = "by POLICY 2 if a new PAGE came: a SPLIT, if there are fewer than 64 BUCKETS.")
    static void splitByPages() {
        SplitBehind x = Texts.made(2, 2, 50, 0, 2, "k", "n0,2,2;n1,2,2");
        due("both pages full, load 100", x.count(1), 2);
        x.put(5, 0);
        due("a new page of bucket 1", x.count(1), 3);
        dueRow("bucket 0, at the pointer, is split", keysOf(x, 2), 2);
        for (int policy = 1; policy <= 2; policy++) {
            SplitBehind y = Texts.made(1, 2, 50, 0, policy, "0", "");
            splitUpTo(y, 63);
            // all in bucket 0: by load 65 keys of 126 places are 51, by pages the third key has a new page
            Texts.work(y, policy == 1 ? "n0,60,1;n60,4,1" : "n0,2,1");
            due("63 at first, policy " + policy, y.count(1), 63);
            y.put(99, 0);
            due("63 are split, policy " + policy, y.count(1), 64);
            Texts.work(y, "n100,60,1;n160,60,1");
            due("64 are not, policy " + policy, y.count(1), 64);
            due("63 splits in all, policy " + policy, y.fileIs(15), 63);
        }
    }

    @Says(promise = 0, words = "DROP: the last KEY of the BUCKET comes to the place of the KEY (if it is not that itself)")
    static void dropFillsThePlace() {
        SplitBehind x = byHand(1, 2, "n0,5,1");
        due("the first one", x.drop(0), 0);
        dueRow("4 comes to its place", keysOf(x, 0), 4, 1, 2, 3);
        due("the last one itself", x.drop(3), 3);
        dueRow("no other one moves", keysOf(x, 0), 4, 1, 2);
        due("4 has its value still", x.find(4), 4);
        x.drop(4);
        x.drop(1);
        due("the only one", x.drop(2), 2);
        dueRow("none is left", keysOf(x, 0));
    }

    @Says(promise = 0, words = "a last PAGE that is empty by that goes free (but a BUCKET's only one)")
    static void dropFreesAPage() {
        SplitBehind x = byHand(1, 2, "n0,4,1");
        x.drop(0);
        dueRow("a page with one key stays", pagesOf(x, 0), 0, 1);
        x.drop(1);
        dueRow("an empty one goes", pagesOf(x, 0), 0);
        due("it is free", x.page(1, 0), -2);
        x.drop(2);
        x.drop(3);
        dueRow("the only one stays", pagesOf(x, 0), 0);
        due("without keys", x.page(0, 2), 0);
        due("not free", x.page(0, 0), 0);
    }

    @Says(promise = 0, words = "then, by POLICY 1 or 2, if LOAD is below DOWN and there are more than N BUCKETS: a JOIN.")
    static void joinByLoad() {
        for (int policy = 0; policy <= 2; policy++) {
            // 10 buckets of 5: each key is 2 of load
            for (int down = 39; down <= 41; down++) {
                SplitBehind x = Texts.made(1, 5, 300, down, policy, "k", "");
                splitUpTo(x, 10);
                Texts.work(x, "n0,21,1;d0");
                due("load 40, down " + down + ", policy " + policy, x.count(1), policy > 0 && down > 40 ? 9 : 10);
            }
            SplitBehind first = Texts.made(2, 2, 300, 49, policy, "k", "p0,0;s;d0");
            due("one more than N, policy " + policy, first.count(1), policy > 0 ? 2 : 3);
            due("joins, policy " + policy, first.fileIs(16), policy > 0 ? 1 : 0);
            Texts.work(first, "p0,0;d0;p1,0;d1");
            due("N are not joined, policy " + policy, first.count(1) >= 2, true);
            SplitBehind one = Texts.made(1, 2, 300, 49, policy, "k", "n0,2,1");
            splitUpTo(one, 8);
            one.drop(0);
            due("one join for one drop, policy " + policy, one.count(1), policy > 0 ? 7 : 8);
            due("a key that is not there joins nothing", one.drop(0), -2);
            due("as many as before, policy " + policy, one.count(1), policy > 0 ? 7 : 8);
        }
    }

    @Says(promise = 0, words = "SPLIT: all PAGES of BUCKET P but its first one go free; a new BUCKET N 2^L + P gets a PAGE")
    static void splitTakesPages() {
        // 0 1 | 2 3 | 4 5 | 6 in pages 0 1 2 3: 1 goes to the new bucket ahead of all that are needed later
        SplitBehind x = byHand(1, 2, "n0,7,1;s");
        dueRow("bucket 0", pagesOf(x, 0), 0, 2);
        dueRow("bucket 1", pagesOf(x, 1), 1, 3);
        SplitBehind stay = byHand(1, 2, "n0,3,2;s");
        dueRow("all stay: bucket 0", pagesOf(stay, 0), 0, 2);
        dueRow("all stay: bucket 1 has a page", pagesOf(stay, 1), 1);
        dueRow("all stay: without keys", keysOf(stay, 1));
        SplitBehind go = byHand(1, 2, "n1,3,2;s");
        dueRow("all go: bucket 0 keeps its first page", pagesOf(go, 0), 0);
        dueRow("all go: without keys", keysOf(go, 0));
        dueRow("all go: bucket 1", pagesOf(go, 1), 1, 2);
        SplitBehind empty = byHand(3, 2, "s");
        dueRow("no keys: bucket 3 is new", pagesOf(empty, 3), 3);
        dueRow("no keys: bucket 0", pagesOf(empty, 0), 0);
    }

    @Says(promise = 0, words = {"KEYS of BUCKET P, in order: those whose HASH modulo N 2^(L + 1) is P are laid in BUCKET P anew",
        "then the others, in order, in the new one."})
    static void splitLaysKeys() {
        SplitBehind x = byHand(1, 2, "p6,0;p3,0;p5,0;p2,0;p1,0;p4,0;s");
        dueRow("those that stay", keysOf(x, 0), 6, 2, 4);
        dueRow("those that go", keysOf(x, 1), 3, 5, 1);
        x.split();
        dueRow("of 2, pointer 0: those that stay", keysOf(x, 0), 4);
        dueRow("of 2, pointer 0: those that go", keysOf(x, 2), 6, 2);
        dueRow("bucket 1 is as it was", keysOf(x, 1), 3, 5, 1);
        x.split();
        dueRow("of 2, pointer 1: those that stay", keysOf(x, 1), 5, 1);
        dueRow("of 2, pointer 1: those that go", keysOf(x, 3), 3);
    }

    @Says(promise = 0, words = "all PAGES of the last BUCKET go free; its KEYS, in order, come behind those of BUCKET P.")
    static void joinLaysKeys() {
        SplitBehind x = byHand(1, 2, "n0,7,1;s;j");
        dueRow("keys", keysOf(x, 0), 0, 2, 4, 6, 1, 3, 5);
        dueRow("pages: 1 and 3 went free ahead of it", pagesOf(x, 0), 0, 2, 1, 3);
        SplitBehind all = byHand(1, 2, "n1,3,2;s;j");
        dueRow("into an empty one: its page first", pagesOf(all, 0), 0, 1);
        dueRow("into an empty one: keys", keysOf(all, 0), 1, 3, 5);
        SplitBehind none = byHand(1, 2, "n0,3,2;s;j");
        dueRow("of an empty one: pages", pagesOf(none, 0), 0, 2);
        due("of an empty one: page 1 is free", none.page(1, 0), -2);
        // N 2: 1 5 9 | 3 7 11 part at pointer 1; they come back to bucket 1, not to another one
        SplitBehind second = byHand(2, 2, "n1,6,2;s;s;j");
        due("pointer 1", second.fileIs(6), 1);
        dueRow("bucket 1", keysOf(second, 1), 1, 5, 9, 3, 7, 11);
        dueRow("bucket 0", keysOf(second, 0));
        dueRow("bucket 2", keysOf(second, 2));
        // a part of a page: 0 2 4 has room for one more
        SplitBehind part = byHand(1, 2, "n0,6,1;s;j");
        dueRow("a page's room is filled first", keysOf(part, 0), 0, 2, 4, 1, 3, 5);
        due("three pages", part.bucket(0, 1), 3);
    }

    @Says(promise = 0, words = {"READS, WRITES count PAGES (0 at first).",
        "FIND: READS of the chain's PAGES up to the one that has the KEY, or of all."})
    static void costOfFind() {
        SplitBehind x = byHand(1, 2, "");
        due("reads at first", x.fileIs(11), 0);
        due("writes at first", x.fileIs(12), 0);
        dueRow("no keys: one page", costOf(x, () -> x.find(3)), 1, 0);
        Texts.work(x, "n0,5,1");
        dueRow("the first key of the first page", costOf(x, () -> x.find(0)), 1, 0);
        dueRow("the last key of the first page", costOf(x, () -> x.find(1)), 1, 0);
        dueRow("the first key of the second page", costOf(x, () -> x.find(2)), 2, 0);
        dueRow("the last page", costOf(x, () -> x.find(4)), 3, 0);
        dueRow("not there: all", costOf(x, () -> x.find(9)), 3, 0);
    }

    @Says(promise = 0, words = "PUT: a FIND; WRITES 1, with a new PAGE 2.")
    static void costOfPut() {
        SplitBehind x = byHand(1, 2, "");
        dueRow("the first one", costOf(x, () -> x.put(0, 0)), 1, 1);
        dueRow("the page is full then", costOf(x, () -> x.put(1, 0)), 1, 1);
        dueRow("a new page", costOf(x, () -> x.put(2, 0)), 1, 2);
        dueRow("two pages", costOf(x, () -> x.put(3, 0)), 2, 1);
        dueRow("there, in the first page", costOf(x, () -> x.put(1, 5)), 1, 1);
        dueRow("there, in the second page", costOf(x, () -> x.put(2, 5)), 2, 1);
        // load 125 of 4 places: a split of 0 1 | 2 3 | 4 reads 3, writes 2 and 1
        SplitBehind load = Texts.made(1, 2, 200, 0, 1, "k", "n0,4,1");
        dueRow("with a split by load", costOf(load, () -> load.put(4, 0)), 2 + 3, 2 + 3);
    }

    @Says(promise = 0, words = {"DROP: if it is there READS of all PAGES of the chain, else a FIND",
        "WRITES 1, and 1 more if the KEY that fills the place was in another PAGE."})
    static void costOfDrop() {
        SplitBehind x = byHand(1, 2, "n0,5,1");
        dueRow("filled from another page", costOf(x, () -> x.drop(0)), 3, 2);
        // 4 1 | 2 3
        dueRow("filled from its own page", costOf(x, () -> x.drop(2)), 2, 1);
        // 4 1 | 3
        dueRow("the last one itself", costOf(x, () -> x.drop(3)), 2, 1);
        dueRow("one page", costOf(x, () -> x.drop(4)), 1, 1);
        dueRow("not there", costOf(x, () -> x.drop(4)), 1, 0);
        SplitBehind chain = byHand(1, 2, "n0,5,1");
        dueRow("not there, of three pages", costOf(chain, () -> chain.drop(9)), 3, 0);
        // 0 4 | 1 | 2 | 3 of 8 places: behind the drop of 0 and 1 the load is 37
        SplitBehind join = Texts.made(2, 2, 300, 49, 1, "k", "n0,5,1;s;s");
        dueRow("no join yet", costOf(join, () -> join.drop(0)), 1, 1);
        dueRow("with a join by load", costOf(join, () -> join.drop(1)), 1 + 2, 1 + 1);
    }

    @Says(promise = 0, words = "SPLIT: READS of BUCKET P's PAGES ahead, WRITES of both BUCKETS' behind it.")
    static void costOfSplit() {
        SplitBehind x = byHand(1, 2, "n0,7,1");
        dueRow("4 ahead, 2 and 2 behind", costOf(x, () -> x.split()), 4, 4);
        SplitBehind stay = byHand(1, 2, "n0,3,2");
        dueRow("all stay", costOf(stay, () -> stay.split()), 2, 3);
        SplitBehind go = byHand(1, 2, "n1,3,2");
        dueRow("all go", costOf(go, () -> go.split()), 2, 3);
        SplitBehind empty = byHand(1, 2, "");
        dueRow("no keys", costOf(empty, () -> empty.split()), 1, 2);
    }

    @Says(promise = 0, words = "JOIN: READS of both BUCKETS' PAGES ahead, WRITES of the one's behind it.")
    static void costOfJoin() {
        SplitBehind x = byHand(1, 2, "n0,7,1;s");
        dueRow("2 and 2 ahead, 4 behind", costOf(x, () -> x.join()), 4, 4);
        SplitBehind go = byHand(1, 2, "n1,3,2;s");
        dueRow("1 and 2 ahead, 2 behind", costOf(go, () -> go.join()), 3, 2);
        SplitBehind stay = byHand(1, 2, "n0,3,2;s");
        dueRow("2 and 1 ahead, 2 behind", costOf(stay, () -> stay.join()), 3, 2);
        SplitBehind empty = byHand(1, 2, "s");
        dueRow("no keys", costOf(empty, () -> empty.join()), 2, 1);
        SplitBehind second = byHand(2, 2, "n1,6,2;s;s");
        dueRow("pointer 1: 2 and 2 ahead, 3 behind", costOf(second, () -> second.join()), 4, 3);
    }

    @Says(promise = 0, words = "The constants: NONE = -1: There is none.")
    static void constants() {
        due("NONE", SplitBehind.NONE, -1);
    }

    public static void main(String[] args) throws IllegalAccessException {
        runAll(FileBoundsTest.class);
    }
}
