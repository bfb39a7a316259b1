/** Promises 23 to 42, each clause at its bounds. */
public final class LaterPromiseBoundsTest extends Sentences {

    /** The bytes 0 to 255, and on from 0: as many as there are keys, whose values they are by ALL_300. */
    private static String bytes(int many) {
        StringBuilder s = new StringBuilder();
        for (int i = 0; i < many; i++) s.append((char) (i & 255));
        return s.toString();
    }

    @Says(promise = 23, words = "GROWN by m (1 to 99), what 0 BUCKETS, 1 LOAD, 2 PAGES, 3 KEYS then, 4 READS, 5 WRITES that these PUTS alone would have; NONE: no such ones.")
    static void p23() {
        SplitBehind x = Texts.made(2, 3, 80, 40, 1, "k", "n0,7,5");
        for (int what = 0; what <= 5; what++) {
            int w = what;
            bounds("m, what " + w, m -> x.grown(m, w), 1, 99, NONE);
        }
        bounds("what", w -> x.grown(1, w), 0, 5, NONE);
        due("99 keys more", x.grown(99, 3), 106);
        SplitBehind y = Texts.made(2, 3, 80, 40, 1, "k", "n0,7,5");
        int[] cost = costOf(y, () -> {
            Texts.work(y, "x60");
            Texts.work(y, "x39");
        });
        int[] then = {y.count(1), y.fileIs(10), y.fileIs(9), y.count(0), cost[0], cost[1]};
        for (int what = 0; what <= 5; what++) due("by 99, what " + what, x.grown(99, what), then[what]);
        SplitBehind one = byHand(1, 2, "n0,2,1");
        int[] byOne = {1, 150, 2, 3, 1, 2};
        for (int what = 0; what <= 5; what++) due("by 1, what " + what, one.grown(1, what), byOne[what]);
        one.put(39022, 0);
        int[] there = {1, 150, 2, 3, 2, 1};
        for (int what = 0; what <= 5; what++) due("by one that is there, what " + what, one.grown(1, what), there[what]);
        due("by one that is in the fourth page", byHand(1, 2, "n0,6,1;p39022,0").grown(1, 4), 4);
    }

    @Says(promise = 23, words = "(Nothing stays changed.)")
    static void p23Nothing() {
        SplitBehind x = Texts.made(2, 3, 80, 40, 1, "k", "n0,7,5");
        x.scan();
        x.tell(0);
        int[] was = new int[17];
        for (int i = 0; i < 17; i++) was[i] = x.fileIs(i);
        for (int what = 0; what <= 5; what++) x.grown(99, what);
        for (int i = 0; i < 17; i++) due("fileIs(" + i + ")", x.fileIs(i), was[i]);
        due("X", x.count(3), 1);
        due("the scan", x.scanIs(0, 0), 1);
        due("nothing is kept by it", x.since(0), -3);
        Twins.unchanged("grown", Twins::middle, "k+1", y -> y.grown(99, 4) >= 0 ? 0 : 1, 0);
        Twins.unchanged("tuned", Twins::middle, "k+1", y -> y.tuned(0) >= 2 ? 0 : 1, 0);
        Twins.unchanged("torn", Twins::middle, "k+1", y -> y.torn(0, 1, 0) >= 0 ? 0 : 1, 0);
        Twins.unchanged("anew", Twins::middle, "k+1", y -> y.anew(64, 3) >= 0 ? 0 : 1, 0);
        Twins.unchanged("next", Twins::middle, "k+1", y -> y.next(NONE) >= 0 ? 0 : 1, 0);
        Twins.unchanged("signs and passed", Twins::middle, "k+1", y -> y.signs(0) >= 0 && y.passed(65535) >= 0 ? 0 : 1, 0);
        Twins.unchanged("enough", Twins::middle, "k+1", y -> y.enough(2) > 0 ? 0 : 1, 0);
        Twins.unchanged("reach", Twins::middle, "k+1", y -> y.reach(0) >= 0 ? 0 : 1, 0);
    }

    @Says(promise = 24, words = "TUNED, what 0 the C by which READS of all KEYS' FINDS are fewest, 1 that by which PAGES times C are; NONE: no such what.")
    static void p24() {
        // one bucket of five: reads 9 7 6 5 5, places 6 6 8 5 6
        SplitBehind x = byHand(1, 2, "n0,5,1");
        due("reads", x.tuned(0), 5);
        due("places", x.tuned(1), 5);
        // of six: reads 12 9 8 7 6, places 6 6 8 10 6
        SplitBehind six = byHand(1, 2, "n0,6,1");
        due("reads of six: the greatest C", six.tuned(0), 6);
        due("places of six: the least C", six.tuned(1), 2);
        bounds("what", x::tuned, 0, 1, NONE);
        due("no keys, reads", byHand(4, 6, "").tuned(0), 2);
        due("no keys, places", byHand(4, 6, "").tuned(1), 2);
        due("300 in one, reads", Texts.made(1, 2, 300, 0, 0, "0", ALL_300).tuned(0), 6);
        due("300 in one, places", Texts.made(1, 6, 300, 0, 0, "0", ALL_300).tuned(1), 2);
        due("C stays", x.fileIs(1), 2);
    }

    @Says(promise = 25, words = "SIGNS of a BUCKET (bits); NONE: no such one.")
    static void p25() {
        SplitBehind x = byHand(3, 2, "p65535,0;p1,0");
        bounds("bucket of 3", x::signs, 0, 2, NONE);
        due("bit 15 alone", x.signs(0), 32768);
        due("bits 0 and 1", x.signs(1), 3);
        due("none", x.signs(2), 0);
        splitUpTo(x, 64);
        bounds("bucket of 64", x::signs, 0, 63, NONE);
    }

    @Says(promise = 26, words = "Of KEYS a to a and 255 (modulo 65536) that are not there, how many PASS; NONE: no such KEY.")
    static void p26() {
        // all bits are there, so that each key passes that is not there
        SplitBehind x = Texts.made(1, 2, 300, 0, 0, "k*257", "n1,60,1;n61,60,1;n121,60,1;n181,60,1;n241,15,1");
        due("0 alone is not there", x.passed(0), 1);
        due("1 to 256: 256 alone is not there", x.passed(1), 1);
        due("256 to 511: none is there", x.passed(256), 256);
        due("65535 to 254: 65535 and 0", x.passed(65535), 2);
        due("65281 to 0: none is there", x.passed(65281), 256);
        due("65282 to 1: 1 is there", x.passed(65282), 255);
        bounds("a", x::passed, 0, 65535, NONE);
        due("no keys", new SplitBehind().passed(0), 0);
    }

    @Says(promise = 27, words = "How many KEYS have FINDS of so many READS (1 to 150); NONE: no such number.")
    static void p27() {
        SplitBehind x = byHand(2, 2, "n0,5,2;p1,0");
        int[] of = {3, 2, 1, 0};
        for (int i = 0; i < 4; i++) due("of " + (i + 1), x.costing(i + 1), of[i]);
        bounds("reads", x::costing, 1, 150, NONE);
        SplitBehind full = byHand(1, 2, ALL_300);
        due("of 150", full.costing(150), 2);
        due("of 1", full.costing(1), 2);
        due("no keys", byHand(1, 2, "").costing(1), 0);
    }

    @Says(promise = 28, words = "Against THE FILE as KEPT, what 0 KEYS that came, 1 that went, 2 that are there both times with unlike VALUES, 3 with unlike ADDRESSES")
    static void p28() {
        SplitBehind x = byHand(1, 2, "n0,7,1");
        x.keep();
        for (int what = 0; what <= 3; what++) due("at once, what " + what, x.since(what), 0);
        Texts.work(x, "p7,0;d0;p1,99;s");
        int[] then = {1, 1, 1, 3};
        for (int what = 0; what <= 3; what++) due("then, what " + what, x.since(what), then[what]);
        Texts.work(x, "d7;p0,0;p1,1;j");
        for (int what = 0; what <= 3; what++) due("turned back, what " + what, x.since(what), 0);
        x.shape(1, 2, 80, 40, 1);
        int[] gone = {0, 7, 0, 0};
        for (int what = 0; what <= 3; what++) due("all gone, what " + what, x.since(what), gone[what]);
        // kept by k in one bucket; then by k+1 in four: 3 and 7 alone are in bucket 0 still
        SplitBehind law = byHand(1, 2, "n0,9,1");
        law.keep();
        law.shape(4, 2, 300, 0, 0);
        Texts.law(law, "k+1");
        Texts.work(law, "n0,10,1");
        int[] byLaws = {1, 0, 0, 7};
        for (int what = 0; what <= 3; what++) due("by each time's law, what " + what, law.since(what), byLaws[what]);
        SplitBehind empty = byHand(1, 2, "");
        empty.keep();
        Texts.work(empty, ALL_300);
        int[] come = {300, 0, 0, 0};
        for (int what = 0; what <= 3; what++) due("all came, what " + what, empty.since(what), come[what]);
        SplitBehind all = byHand(1, 2, ALL_300);
        all.keep();
        for (int k = 0; k < 300; k++) all.put(k, k + 1 & 255);
        due("all 300 with other values", all.since(2), 300);
        splitUpTo(all, 64);
        // bucket 0 keeps 0 64 128 192 256
        due("all but five with other addresses", all.since(3), 295);
        all.undo();
        due("undone", all.since(2) + all.since(3), 0);
    }

    @Says(promise = 28, words = "-3: nothing was KEPT; NONE: no such what.")
    static void p28No() {
        SplitBehind x = byHand(1, 2, "n0,7,1");
        for (int what = 0; what <= 3; what++) due("nothing kept, what " + what, x.since(what), -3);
        bounds("what, nothing kept", x::since, 0, 3, NONE);
        x.keep();
        bounds("what", x::since, 0, 3, NONE);
        x.shape(1, 2, 80, 40, 1);
        due("what was kept stays so", x.since(1), 7);
    }

    @Says(promise = 29, words = "ALIKE, what 0 how many KEYS, 1 the HASH that most have (the least; no KEYS: -2), 2 how many have it; NONE: no such what.")
    static void p29() {
        SplitBehind x = new SplitBehind();
        due("no keys, how many", x.alike(0), 0);
        due("no keys, which", x.alike(1), -2);
        due("no keys, have it", x.alike(2), 0);
        bounds("what, no keys", x::alike, 0, 2, NONE);
        x.put(65535, 0);
        due("one key: its hash", x.alike(1), 65535);
        due("one has it", x.alike(2), 1);
        x.put(3, 0);
        due("two with one each: the least", x.alike(1), 3);
        // hashes by ~k%4: of 0 3, of 1 2, of 2 1, of 3 0 and so on; in order, N 2: 0 2 1 3
        SplitBehind y = Texts.made(2, 3, 300, 0, 0, "~k%4", "n0,8,1");
        due("four with two each: the least", y.alike(1), 0);
        y.put(8, 0);
        due("3 has three", y.alike(1), 3);
        due("three have it", y.alike(2), 3);
        y.put(10, 0);
        due("1 has three, too, and is less", y.alike(1), 1);
        y.drop(10);
        due("3 again", y.alike(1), 3);
        due("all of them", y.alike(0), 9);
        // in order, N 2: hash 5 stands ahead of hash 3
        SplitBehind z = Texts.made(2, 3, 300, 0, 0, "k%10", "p3,0;p5,0;p15,0");
        due("one of a lesser hash is not most", z.alike(1), 5);
        due("two have 5", z.alike(2), 2);
        z.put(13, 0);
        due("two of a lesser hash are", z.alike(1), 3);
        SplitBehind full = Texts.made(2, 3, 300, 0, 0, "0", ALL_300);
        due("300: 0", full.alike(1), 0);
        due("300 have it", full.alike(2), 300);
        bounds("what", full::alike, 0, 2, NONE);
    }

    @Says(promise = 30, words = "KEY i in ORDER; -4: there are not so many; NONE: i below 0.")
    static void p30() {
        SplitBehind x = byHand(2, 3, "n0,5,1");
        dueRow("all", inOrderOf(x), 0, 4, 2, 1, 3);
        due("one more", x.inOrder(5), -4);
        due("as far as can be", x.inOrder(Integer.MAX_VALUE), -4);
        due("just below", x.inOrder(-1), NONE);
        due("far below", x.inOrder(Integer.MIN_VALUE), NONE);
        SplitBehind none = byHand(2, 3, "");
        due("no keys", none.inOrder(0), -4);
        due("no keys, below", none.inOrder(-1), NONE);
        SplitBehind full = Texts.made(2, 3, 300, 0, 0, "0", ALL_300);
        due("the 300th", full.inOrder(299), 299);
        due("the 301st", full.inOrder(300), -4);
    }

    @Says(promise = 31, words = "How many KEYS from one to another one (both of them, too; the first no greater) are there; NONE: no such ones.")
    static void p31() {
        SplitBehind x = byHand(1, 2, "p0,0;p10,0;p20,0;p65535,0");
        due("all", x.between(0, 65535), 4);
        due("both, too", x.between(10, 20), 2);
        due("without the first", x.between(11, 20), 1);
        due("without the last", x.between(10, 19), 1);
        due("without both", x.between(11, 19), 0);
        due("like ones", x.between(10, 10), 1);
        due("0 alone", x.between(0, 0), 1);
        due("65535 alone", x.between(65535, 65535), 1);
        due("the first is greater by one", x.between(11, 10), NONE);
        due("the first is greater", x.between(65535, 0), NONE);
        bounds("low", low -> x.between(low, 65535), 0, 65535, NONE);
        bounds("high", high -> x.between(0, high), 0, 65535, NONE);
        due("no keys", new SplitBehind().between(0, 65535), 0);
        due("all 300", byHand(1, 2, ALL_300).between(0, 299), 300);
    }

    @Says(promise = 32, words = "Of bit i (0 to 15) of HASHES, of KEYS a to a and 255 (modulo 65536): in how many it is 1 (what 0), for how many it is another one if bit what less 1 of the KEY is turned (what 1 to 16); NONE: no such ones.")
    static void p32() {
        SplitBehind x = new SplitBehind();
        for (int i = 0; i < 16; i++) {
            due("bit " + i + " of 0 to 255", x.bits(0, i, 0), i < 8 ? 128 : 0);
            due("bit " + i + " of 65280 to 65535", x.bits(65280, i, 0), i < 8 ? 128 : 256);
            for (int what = 1; what <= 16; what++) due("bit " + i + " by bit " + (what - 1), x.bits(7, i, what), i == what - 1 ? 256 : 0);
        }
        due("1 to 256: bit 8", x.bits(1, 8, 0), 1);
        due("65281 to 0: bit 15", x.bits(65281, 15, 0), 255);
        due("65535 to 254: bit 15", x.bits(65535, 15, 0), 1);
        // by k+1 a carry comes to bit i if all bits below it are 1
        Texts.law(x, "k+1");
        due("bit 1 by bit 0", x.bits(0, 1, 1), 256);
        due("bit 2 by bit 0", x.bits(0, 2, 1), 128);
        due("bit 8 by bit 0: 254 and 255", x.bits(0, 8, 1), 2);
        due("bit 15 by bit 15", x.bits(65535, 15, 16), 256);
        bounds("a", a -> x.bits(a, 0, 0), 0, 65535, NONE);
        bounds("i", i -> x.bits(0, i, 0), 0, 15, NONE);
        bounds("what", w -> x.bits(0, 0, w), 0, 16, NONE);
    }

    @Says(promise = 33, words = "A SCAN begins: its number, the lowest that is not open; -3: 4 are open.")
    static void p33() {
        SplitBehind x = byHand(1, 2, "n0,3,1");
        for (int s = 0; s < 4; s++) due("the lowest", x.scan(), s);
        due("4 are open", x.scan(), -3);
        due("still 4", x.count(4), 4);
        x.tell(2);
        x.ends(2);
        x.ends(1);
        due("1 is lower than 2", x.scan(), 1);
        due("then 2", x.scan(), 2);
        due("which begins anew", x.tell(2), x.inOrder(0));
        due("4 again", x.scan(), -3);
        x.ends(3);
        due("the last one", x.scan(), 3);
    }

    @Says(promise = 34, words = "The KEY that SCAN s tells now; -2: there is none more; NONE: it is not open.")
    static void p34() {
        SplitBehind x = byHand(2, 3, "n0,3,1");
        due("none is open", x.tell(0), NONE);
        x.scan();
        due("0", x.tell(0), 0);
        due("2", x.tell(0), 2);
        due("1", x.tell(0), 1);
        due("none more", x.tell(0), -2);
        due("none more again", x.tell(0), -2);
        x.put(3, 0);
        due("one more", x.tell(0), 3);
        for (int s = 0; s < 4; s++) x.scan();
        bounds("scan", x::tell, 0, 3, NONE);
        x.ends(3);
        due("3 ended", x.tell(3), NONE);
        SplitBehind none = new SplitBehind();
        none.scan();
        due("no keys", none.tell(0), -2);
    }

    @Says(promise = 35, words = "Of SCAN s, what 0 how many KEYS it told, 1 how many are to come, 2 the last one (none: -2); NONE: it is not open, no such what.")
    static void p35() {
        SplitBehind x = byHand(2, 3, "n0,3,1");
        for (int what = 0; what <= 2; what++) due("not open, what " + what, x.scanIs(0, what), NONE);
        for (int s = 0; s < 4; s++) x.scan();
        int[] order = {0, 2, 1};
        for (int i = 0; i <= 3; i++) {
            due("told", x.scanIs(1, 0), i);
            due("to come", x.scanIs(1, 1), 3 - i);
            due("the last one", x.scanIs(1, 2), i == 0 ? -2 : order[i - 1]);
            x.tell(1);
        }
        due("none more is none told", x.scanIs(1, 0), 3);
        Texts.work(x, "d0;d2;d1");
        due("told stays, though they are gone", x.scanIs(1, 0), 3);
        due("the last one stays, though it is gone", x.scanIs(1, 2), 1);
        due("none to come", x.scanIs(2, 1), 0);
        bounds("scan", s -> x.scanIs(s, 0), 0, 3, NONE);
        bounds("what", w -> x.scanIs(1, w), 0, 2, NONE);
        x.ends(3);
        due("3 ended", x.scanIs(3, 0), NONE);
        due("not open and no such what", x.scanIs(3, 3), NONE);
    }

    @Says(promise = 36, words = "In how many BUCKETS are KEYS that SCAN s has still to tell; NONE: it is not open.")
    static void p36() {
        SplitBehind x = byHand(2, 3, "n0,5,1");
        due("not open", x.reach(0), NONE);
        for (int s = 0; s < 4; s++) x.scan();
        // 0 4 2 | 1 3
        int[] reach = {2, 2, 2, 1, 1, 0};
        for (int i = 0; i < reach.length; i++) {
            due("behind " + i, x.reach(0), reach[i]);
            x.tell(0);
        }
        splitUpTo(x, 64);
        due("all five in buckets of their own", x.reach(1), 5);
        due("none", x.reach(0), 0);
        bounds("scan", x::reach, 0, 3, NONE);
        Texts.work(x, "d0;d1;d2;d3;d4");
        due("no keys", x.reach(1), 0);
    }

    @Says(promise = 37, words = "SCAN s ends: how many KEYS it told; NONE: it is not open.")
    static void p37() {
        SplitBehind x = byHand(2, 3, "n0,3,1");
        due("not open", x.ends(0), NONE);
        for (int s = 0; s < 4; s++) x.scan();
        for (int s = 0; s < 4; s++) for (int i = 0; i < s + 1; i++) x.tell(s);
        int[] told = {1, 2, 3, 3};
        for (int s = 0; s < 4; s++) {
            due("told", x.ends(s), told[s]);
            due("it is not open any more", x.ends(s), NONE);
            due("open ones", x.count(4), 3 - s);
        }
        for (int s = 0; s < 4; s++) x.scan();
        due("just below", x.ends(-1), NONE);
        due("just above", x.ends(4), NONE);
        for (int far : EXTREMES) due("far", x.ends(far), NONE);
        due("none ended by that", x.count(4), 4);
        due("none told", x.ends(0), 0);
        due("none told, 3", x.ends(3), 0);
    }

    @Says(promise = 38, words = "THE SEED (0 to 65535; X, too): true; false: no such number.")
    static void p38() {
        SplitBehind x = new SplitBehind();
        due("0", x.seed(0), true);
        due("X is 0", x.count(3), 0);
        due("65535", x.seed(65535), true);
        due("X is 65535", x.count(3), 65535);
        Texts.work(x, "x1");
        due("drawn from it", x.count(3), 54212);
        bounds("seed", s -> asInt(x.seed(s)), 0, 65535, 0);
        x.seed(7);
        due("65536 is none", x.seed(65536), false);
        due("-1 is none", x.seed(-1), false);
        due("7 stays", x.count(3), 7);
    }

    @Says(promise = 39, words = "KEPT: how many KEYS.")
    static void p39() {
        due("no keys", new SplitBehind().keep(), 0);
        due("one", byHand(1, 2, "p1,1").keep(), 1);
        SplitBehind full = byHand(1, 2, ALL_300);
        due("300", full.keep(), 300);
        full.drop(5);
        due("299 then", full.keep(), 299);
        full.put(5, 5);
        full.undo();
        due("the last one is kept", full.count(0), 299);
    }

    @Says(promise = 40, words = "UNDONE: true; false: nothing was KEPT.")
    static void p40() {
        SplitBehind x = byHand(1, 2, "n0,3,1");
        due("nothing was kept", x.undo(), false);
        due("nothing is changed", x.count(0), 3);
        x.keep();
        Texts.work(x, "d0;d1;d2");
        due("undone", x.undo(), true);
        due("three again", x.count(0), 3);
        x.drop(0);
        due("undone again", x.undo(), true);
        due("three once more", x.count(0), 3);
        SplitBehind empty = new SplitBehind();
        empty.keep();
        Texts.work(empty, "n0,9,1;s");
        due("an empty one was kept, too", empty.undo(), true);
        due("it is empty", empty.count(0), 0);
        due("of two buckets", empty.count(1), 2);
        SplitBehind full = Texts.made(1, 2, 300, 0, 0, "0", ALL_300);
        splitUpTo(full, 64);
        full.keep();
        full.shape(4, 6, 80, 40, 1);
        due("a full one", full.undo(), true);
        due("its keys", full.bucket(0, 0), 300);
        due("its buckets", full.count(1), 64);
        due("its pages", full.fileIs(9), 213);
        due("its law", full.keyIs(9, 0), 0);
    }

    @Says(promise = 41, words = "CHECK by the first n bytes of the tape (0 to 300; empty then): NONE: right (beyond all KEYS nothing is); else the first that is not so")
    static void p41() {
        // by the law 0 keys 0 to 299 stand in order, each with its value modulo 256
        SplitBehind full = Texts.made(1, 6, 300, 0, 0, "0", ALL_300);
        for (int n : new int[] {0, 1, 255, 256, 257, 299, 300}) {
            Texts.feed(full, bytes(320));
            due("right, n " + n, full.check(n), NONE);
            due("empty then", full.count(2), 0);
        }
        for (int spoilt : new int[] {0, 1, 298, 299}) {
            StringBuilder s = new StringBuilder(bytes(300));
            s.setCharAt(spoilt, (char) (s.charAt(spoilt) ^ 128));
            Texts.feed(full, s.toString());
            due("spoilt is " + spoilt, full.check(300), spoilt);
            due("empty then, too", full.count(2), 0);
            Texts.feed(full, s.toString());
            due("what is ahead of it is right", full.check(spoilt), NONE);
        }
        SplitBehind few = Texts.made(1, 6, 300, 0, 0, "0", "n0,3,1");
        Texts.feed(few, bytes(20));
        due("as many as there are", few.check(3), NONE);
        Texts.feed(few, bytes(20));
        due("beyond all keys nothing is right", few.check(4), 3);
        SplitBehind none = new SplitBehind();
        due("no keys, no bytes", none.check(0), NONE);
        Texts.feed(none, bytes(20));
        due("no keys, one byte", none.check(1), 0);
    }

    @Says(promise = 41, words = "-2: no such n, it has not so many (the tape stays).")
    static void p41No() {
        SplitBehind x = new SplitBehind();
        due("an empty tape", x.check(1), -2);
        Texts.feed(x, bytes(20));
        for (int n : new int[] {Integer.MIN_VALUE, -2, -1, 21, 300, 301, Integer.MAX_VALUE}) {
            due("n " + n + " of 20", x.check(n), -2);
            due("the tape stays", x.count(2), 20);
        }
        due("n 20 of 20 is read", x.check(20), 0);
        Texts.feed(x, bytes(320));
        due("n 301 of 320", x.check(301), -2);
        due("320 stay", x.count(2), 320);
        due("n 300 of 320 is read", x.check(300), 0);
        due("empty then", x.count(2), 0);
    }

    @Says(promise = 42, words = "0 KEYS, 1 BUCKETS, 2 bytes of the tape, 3 X, 4 SCANS that are open. NONE for others.")
    static void p42() {
        SplitBehind x = new SplitBehind();
        int[] least = {0, 2, 0, 0, 0};
        x.seed(0);
        for (int i = 0; i < 5; i++) due("least, count(" + i + ")", x.count(i), least[i]);
        SplitBehind y = Texts.made(1, 2, 300, 0, 0, "k", ALL_300);
        splitUpTo(y, 64);
        for (int s = 0; s < 4; s++) y.scan();
        for (int i = 0; i < 16; i++) y.feed(0, 0, 0, 0, 0);
        y.seed(65535);
        int[] most = {300, 64, 320, 65535, 4};
        for (int i = 0; i < 5; i++) due("most, count(" + i + ")", y.count(i), most[i]);
        bounds("what", y::count, 0, 4, NONE);
    }

    public static void main(String[] args) throws IllegalAccessException {
        runAll(LaterPromiseBoundsTest.class);
    }
}
