import java.util.Arrays;

/**
 * A hash file that grows by a bucket at a time (linear hashing).
 *
 * The words of the document stand for these classes: Tape (the bytes that were fed), Law and
 * LawReader (the hash as a text), Steps (work as a text), Chains (buckets as chains of pages),
 * Order (keys as scans tell them), Scans, and HashFile, which is all that keep() keeps.
 * Every row is made in a constructor and used again: no call makes an object.
 */
public final class SplitBehind {
    public static final int NONE = -1;

    private static final int NOT_THERE = -2;
    private static final int CANT = -3;
    private static final int NOT_SO_MANY = -4;
    private static final int NO_SUCH = -9;

    private static final int TOP = 65535;
    private static final int TOP_VALUE = 255;
    private static final int KEYS = 300;
    private static final int BUCKETS = 64;
    private static final int PAGES = 256;
    private static final int SLOTS = 6;
    private static final int LONGEST = 150;
    private static final int SCANS = 4;
    private static final int RANGE = 256;

    private final Tape tape = new Tape();
    private final LawReader lawReader = new LawReader();
    private final Steps steps = new Steps();
    private final HashFile file = new HashFile();
    private final HashFile kept = new HashFile();
    private final HashFile spare = new HashFile();
    private final int[] perBucket = new int[BUCKETS];
    private boolean isKept = false;

    public SplitBehind() {
    }

    public int feed(int a, int b, int c, int d, int e) {
        if (!tape.hasRoom()) {
            return NONE;
        }
        tape.append(a);
        tape.append(b);
        tape.append(c);
        tape.append(d);
        tape.append(e);
        return tape.size;
    }

    public boolean shape(int n, int c, int up, int down, int policy) {
        boolean fits = within(n, 1, 4) && within(c, 2, SLOTS) && within(up, 50, 300)
            && within(down, 0, 49) && within(policy, 0, 2);
        if (fits) {
            file.reset(n, c, up, down, policy);
        }
        return fits;
    }

    public int law(int n) {
        if (!tape.has(n, 1, LawReader.LONGEST_LAW)) {
            return NONE;
        }
        tape.open(n);
        if (file.order.size > 0) {
            return CANT;
        }
        int fault = lawReader.read(tape);
        if (fault != 0) {
            return fault;
        }
        file.law.take(lawReader.code, lawReader.size);
        return file.order.size;
    }

    public int work(int n) {
        if (!tape.has(n, 1, Steps.LONGEST_WORK)) {
            return NONE;
        }
        tape.open(n);
        int fault = steps.read(tape);
        if (fault != 0) {
            return fault;
        }
        for (int i = 0; i < steps.size; i++) {
            doStep(steps.letter[i], steps.first[i], steps.second[i], steps.third[i]);
        }
        return steps.size;
    }

    private void doStep(int letter, int first, int second, int third) {
        switch (letter) {
            case 'p':
                file.store(first, second);
                break;
            case 'd':
                file.remove(first);
                break;
            case 'g':
                file.look(first);
                break;
            case 's':
                file.divide();
                break;
            case 'j':
                file.unite();
                break;
            case 'n':
                storeRow(first, second, third);
                break;
            case 'x':
                file.storeDrawn(first);
                break;
            case 'y':
                file.removeDrawn(first);
                break;
            default:
                break;
        }
    }

    private void storeRow(int key, int many, int apart) {
        for (int i = 0; i < many; i++) {
            int each = (key + i * apart) & TOP;
            file.store(each, each & TOP_VALUE);
        }
    }

    public int put(int key, int value) {
        if (!isKey(key) || !within(value, 0, TOP_VALUE)) {
            return NONE;
        }
        return file.store(key, value);
    }

    public int find(int key) {
        return isKey(key) ? file.look(key) : NONE;
    }

    public int drop(int key) {
        return isKey(key) ? file.remove(key) : NONE;
    }

    public int split() {
        return file.divide();
    }

    public int join() {
        return file.unite();
    }

    public int fileIs(int what) {
        switch (what) {
            case 0:
                return file.n;
            case 1:
                return file.chains.room;
            case 2:
                return file.up;
            case 3:
                return file.down;
            case 4:
                return file.policy;
            case 5:
                return file.level;
            case 6:
                return file.pointer;
            case 7:
                return file.buckets();
            case 8:
                return file.order.size;
            case 9:
                return file.chains.usedPages();
            case 10:
                return file.load();
            case 11:
                return file.reads;
            case 12:
                return file.writes;
            case 13:
                return file.chains.longest(file.buckets());
            case 14:
                return file.chains.withoutKeys(file.buckets());
            case 15:
                return file.splits;
            case 16:
                return file.joins;
            default:
                return NONE;
        }
    }

    public int keyIs(int key, int what) {
        if (!isKey(key)) {
            return NONE;
        }
        int hash = file.law.hashOf(key);
        switch (what) {
            case 0:
                return hash;
            case 1:
                return file.addressOf(hash);
            case 2:
                return movesOf(hash);
            case 3:
                return file.readsFor(key, file.addressOf(hash));
            case 4:
                return file.isFull() ? CANT : file.addressAmong(hash, file.buckets() + 1);
            default:
                return NONE;
        }
    }

    private int movesOf(int hash) {
        int moves = 0;
        int before = file.addressAmong(hash, file.n);
        for (int b = file.n + 1; b <= BUCKETS; b++) {
            int now = file.addressAmong(hash, b);
            if (now != before) {
                moves++;
            }
            before = now;
        }
        return moves;
    }

    public int where(int key, int b) {
        if (!isKey(key) || !isAmount(b)) {
            return NONE;
        }
        return file.addressAmong(file.law.hashOf(key), b);
    }

    public int bucket(int bucket, int what) {
        if (!isBucket(bucket) || what < 0) {
            return NONE;
        }
        Chains chains = file.chains;
        if (what >= 1000) {
            return chains.keyAt(bucket, what - 1000);
        }
        if (what >= 100) {
            int page = chains.pageAt(bucket, what - 100);
            return page == NONE ? NOT_SO_MANY : page;
        }
        if (what == 0) {
            return chains.keysIn[bucket];
        }
        return what == 1 ? chains.pagesIn[bucket] : NONE;
    }

    public int page(int page, int what) {
        boolean asksKey = within(what, 10, 10 + SLOTS - 1);
        if (!within(page, 0, PAGES - 1) || !(within(what, 0, 2) || asksKey)) {
            return NONE;
        }
        Chains chains = file.chains;
        if (chains.owner[page] == NONE) {
            return NOT_THERE;
        }
        if (asksKey) {
            int slot = what - 10;
            return slot < chains.filled[page] ? Entry.keyOf(chains.slots[page * SLOTS + slot]) : NOT_SO_MANY;
        }
        if (what == 0) {
            return chains.owner[page];
        }
        return what == 1 ? chains.place[page] : chains.filled[page];
    }

    public int chains(int pages) {
        if (!within(pages, 1, LONGEST)) {
            return NONE;
        }
        int many = 0;
        int buckets = file.buckets();
        for (int b = 0; b < buckets; b++) {
            if (file.chains.pagesIn[b] == pages) {
                many++;
            }
        }
        return many;
    }

    public int finds(int what) {
        switch (what) {
            case 0:
                return file.chains.allReads();
            case 1:
                return file.chains.mostReads();
            case 2:
                // a key that is not there costs its whole chain, so that all chains together are asked
                return file.chains.usedPages();
            default:
                return NONE;
        }
    }

    public int next(int i) {
        if (i < NONE) {
            return NO_SUCH;
        }
        if (file.isFull()) {
            return CANT;
        }
        Chains chains = file.chains;
        int seen = 0;
        chains.gather(file.pointer);
        for (int h = 0; h < chains.heldMany; h++) {
            if (file.goesAtNextSplit(chains.held[h])) {
                if (seen == i) {
                    return Entry.keyOf(chains.held[h]);
                }
                seen++;
            }
        }
        return i == NONE ? seen : NOT_SO_MANY;
    }

    public int parted(int key, int other) {
        if (!isKey(key) || !isKey(other) || key == other) {
            return NONE;
        }
        int hash = file.law.hashOf(key);
        int otherHash = file.law.hashOf(other);
        for (int b = file.n; b <= BUCKETS; b++) {
            if (file.addressAmong(hash, b) != file.addressAmong(otherHash, b)) {
                return b;
            }
        }
        return NOT_THERE;
    }

    public int enough(int keys) {
        if (!within(keys, 1, KEYS)) {
            return NONE;
        }
        for (int b = file.n; b <= BUCKETS; b++) {
            if (mostIn(b) <= keys) {
                return b;
            }
        }
        return NOT_THERE;
    }

    private int mostIn(int b) {
        countAmong(b);
        int most = 0;
        for (int i = 0; i < b; i++) {
            most = Math.max(most, perBucket[i]);
        }
        return most;
    }

    private void countAmong(int b) {
        Arrays.fill(perBucket, 0);
        int span = file.spanAmong(b);
        for (int i = 0; i < file.order.size; i++) {
            perBucket[HashFile.address(file.hashAt(i), span, b - span)]++;
        }
    }

    public int anew(int b, int what) {
        if (!isAmount(b) || !within(what, 0, 3)) {
            return NONE;
        }
        countAmong(b);
        int pages = 0;
        int longest = 0;
        int empty = 0;
        int reads = 0;
        int c = file.chains.room;
        for (int i = 0; i < b; i++) {
            int needed = pagesFor(perBucket[i], c);
            pages += needed;
            longest = Math.max(longest, needed);
            empty += perBucket[i] == 0 ? 1 : 0;
            reads += readsOfAll(perBucket[i], c);
        }
        switch (what) {
            case 0:
                return pages;
            case 1:
                return longest;
            case 2:
                return empty;
            default:
                return reads;
        }
    }

    private static int pagesFor(int keys, int c) {
        return c < 1 ? 1 : Math.max(1, (keys + c - 1) / c);
    }

    private static int readsOfAll(int keys, int c) {
        if (c < 1) {
            return 0;
        }
        int full = keys / c;
        return c * (full * (full + 1) / 2) + keys % c * (full + 1);
    }

    public int torn(int kind, int w, int what) {
        if (!within(kind, 0, 1) || w < 0 || !within(what, 0, 1)) {
            return NONE;
        }
        if (file.isFull()) {
            return CANT;
        }
        spare.copyFrom(file);
        spare.divide();
        int old = file.pointer;
        int fresh = file.span() + old;
        if (w > spare.chains.pagesIn[old] + spare.chains.pagesIn[fresh]) {
            return NOT_SO_MANY;
        }
        int ahead = kind == 0 ? old : fresh;
        int many = 0;
        int stay = 0;
        for (int i = 0; i < spare.chains.heldMany; i++) {
            // held are the keys of the old bucket as it was, and both new chains have them in that order
            boolean stays = !file.goesAtNextSplit(spare.chains.held[i]);
            int goesTo = stays ? spare.chains.pageOfKey(old, stay) : spare.chains.pageOfKey(fresh, i - stay);
            stay += stays ? 1 : 0;
            boolean standsInOld = !isWritten(file.chains.pageOfKey(old, i), ahead, w);
            boolean standsInNew = isWritten(goesTo, ahead, w);
            if (standsInOld == standsInNew && standsInNew == (what == 1)) {
                many++;
            }
        }
        return many;
    }

    /** Whether a page is among the first w that the split in the spare file writes. */
    private boolean isWritten(int page, int ahead, int w) {
        if (page == NONE) {
            return false;
        }
        int old = file.pointer;
        int owner = spare.chains.owner[page];
        if (owner != old && owner != file.span() + old) {
            return false;
        }
        int before = owner == ahead ? 0 : spare.chains.pagesIn[ahead];
        return before + spare.chains.place[page] < w;
    }

    public int grown(int m, int what) {
        if (!within(m, 1, 99) || !within(what, 0, 5)) {
            return NONE;
        }
        spare.copyFrom(file);
        spare.storeDrawn(m);
        switch (what) {
            case 0:
                return spare.buckets();
            case 1:
                return spare.load();
            case 2:
                return spare.chains.usedPages();
            case 3:
                return spare.order.size;
            case 4:
                return spare.reads - file.reads;
            default:
                return spare.writes - file.writes;
        }
    }

    public int tuned(int what) {
        if (!within(what, 0, 1)) {
            return NONE;
        }
        spare.copyFrom(file);
        int best = 0;
        int bestCost = 0;
        for (int c = 2; c <= SLOTS; c++) {
            spare.reset(file.n, c, file.up, file.down, file.policy);
            for (int i = 0; i < file.order.size; i++) {
                spare.store(file.order.keyAt(i), 0);
            }
            int cost = what == 0 ? spare.chains.allReads() : spare.chains.usedPages() * c;
            if (best == 0 || cost < bestCost) {
                best = c;
                bestCost = cost;
            }
        }
        return best;
    }

    public int signs(int bucket) {
        if (!isBucket(bucket)) {
            return NONE;
        }
        gatherSigns();
        return perBucket[bucket];
    }

    private void gatherSigns() {
        Arrays.fill(perBucket, 0);
        for (int i = 0; i < file.order.size; i++) {
            int hash = file.hashAt(i);
            perBucket[file.addressOf(hash)] |= signOf(hash);
        }
    }

    private static int signOf(int hash) {
        return 1 << (hash >> 12) | 1 << (hash & 15);
    }

    public int passed(int a) {
        if (!isKey(a)) {
            return NONE;
        }
        gatherSigns();
        int many = 0;
        for (int i = 0; i < RANGE; i++) {
            int key = (a + i) & TOP;
            int hash = file.law.hashOf(key);
            int sign = signOf(hash);
            boolean passes = (perBucket[file.addressOf(hash)] & sign) == sign;
            if (passes && !file.holds(key, hash)) {
                many++;
            }
        }
        return many;
    }

    public int costing(int reads) {
        return within(reads, 1, LONGEST) ? file.chains.keysCosting(reads) : NONE;
    }

    public int since(int what) {
        if (!within(what, 0, 3)) {
            return NONE;
        }
        if (!isKept) {
            return CANT;
        }
        HashFile one = what == 1 ? kept : file;
        HashFile other = what == 1 ? file : kept;
        int many = 0;
        for (int i = 0; i < one.order.size; i++) {
            if (differs(one, other, one.order.keyAt(i), what)) {
                many++;
            }
        }
        return many;
    }

    private static boolean differs(HashFile one, HashFile other, int key, int what) {
        int hash = one.law.hashOf(key);
        int otherHash = other.law.hashOf(key);
        boolean isInBoth = other.holds(key, otherHash);
        if (what <= 1) {
            return !isInBoth;
        }
        if (!isInBoth) {
            return false;
        }
        if (what == 2) {
            return one.valueOf(key) != other.valueOf(key);
        }
        return one.addressOf(hash) != other.addressOf(otherHash);
    }

    public int alike(int what) {
        if (!within(what, 0, 2)) {
            return NONE;
        }
        int together = 0;
        int most = 0;
        int mostHash = NOT_THERE;
        int before = NONE;
        int run = 0;
        // keys of one hash stand side by side in order
        for (int i = 0; i < file.order.size; i++) {
            int hash = file.hashAt(i);
            run = hash == before ? run + 1 : 1;
            before = hash;
            if (run > 1) {
                together += run == 2 ? 2 : 1;
            }
            if (run > most || run == most && hash < mostHash) {
                most = run;
                mostHash = hash;
            }
        }
        if (what == 0) {
            return together;
        }
        return what == 1 ? mostHash : most;
    }

    public int inOrder(int i) {
        if (i < 0) {
            return NONE;
        }
        return i < file.order.size ? file.order.keyAt(i) : NOT_SO_MANY;
    }

    public int between(int low, int high) {
        if (!isKey(low) || !isKey(high) || low > high) {
            return NONE;
        }
        int many = 0;
        for (int i = 0; i < file.order.size; i++) {
            if (within(file.order.keyAt(i), low, high)) {
                many++;
            }
        }
        return many;
    }

    public int bits(int a, int i, int what) {
        if (!isKey(a) || !within(i, 0, 15) || !within(what, 0, 16)) {
            return NONE;
        }
        int turned = what == 0 ? 0 : 1 << (what - 1);
        int many = 0;
        for (int k = 0; k < RANGE; k++) {
            int key = (a + k) & TOP;
            int seen = file.law.hashOf(key);
            if (what > 0) {
                seen ^= file.law.hashOf(key ^ turned);
            }
            many += seen >> i & 1;
        }
        return many;
    }

    public int scan() {
        int s = file.scans.lowestClosed();
        if (s == NONE) {
            return CANT;
        }
        file.scans.begin(s);
        return s;
    }

    public int tell(int s) {
        if (!file.scans.isOpen(s)) {
            return NONE;
        }
        int at = file.placeBehind(file.scans.last[s]);
        if (at >= file.order.size) {
            return NOT_THERE;
        }
        int key = file.order.keyAt(at);
        file.scans.last[s] = key;
        file.scans.told[s]++;
        return key;
    }

    public int scanIs(int s, int what) {
        if (!file.scans.isOpen(s)) {
            return NONE;
        }
        int last = file.scans.last[s];
        switch (what) {
            case 0:
                return file.scans.told[s];
            case 1:
                return file.order.size - file.placeBehind(last);
            case 2:
                return last == NONE ? NOT_THERE : last;
            default:
                return NONE;
        }
    }

    public int reach(int s) {
        if (!file.scans.isOpen(s)) {
            return NONE;
        }
        Arrays.fill(perBucket, 0);
        int many = 0;
        for (int i = file.placeBehind(file.scans.last[s]); i < file.order.size; i++) {
            int bucket = file.addressOf(file.hashAt(i));
            if (perBucket[bucket] == 0) {
                perBucket[bucket] = 1;
                many++;
            }
        }
        return many;
    }

    public int ends(int s) {
        if (!file.scans.isOpen(s)) {
            return NONE;
        }
        int told = file.scans.told[s];
        file.scans.close(s);
        return told;
    }

    public boolean seed(int x) {
        if (!within(x, 0, TOP)) {
            return false;
        }
        file.drawn = x;
        return true;
    }

    public int keep() {
        kept.copyFrom(file);
        isKept = true;
        return file.order.size;
    }

    public boolean undo() {
        if (isKept) {
            file.copyFrom(kept);
        }
        return isKept;
    }

    public int check(int n) {
        if (!tape.has(n, 0, KEYS)) {
            return NOT_THERE;
        }
        tape.open(n);
        for (int i = 0; i < n; i++) {
            if (i >= file.order.size || file.valueOf(file.order.keyAt(i)) != tape.bytes[i]) {
                return i;
            }
        }
        return NONE;
    }

    public int count(int what) {
        switch (what) {
            case 0:
                return file.order.size;
            case 1:
                return file.buckets();
            case 2:
                return tape.size;
            case 3:
                return file.drawn;
            case 4:
                return file.scans.openOnes();
            default:
                return NONE;
        }
    }

    private static boolean within(int number, int low, int high) {
        return number >= low && number <= high;
    }

    private static boolean isKey(int key) {
        return within(key, 0, TOP);
    }

    private boolean isBucket(int bucket) {
        return within(bucket, 0, file.buckets() - 1);
    }

    /** Whether the file could have so many buckets. */
    private boolean isAmount(int b) {
        return within(b, file.n, BUCKETS);
    }

    private static int reversed(int bits) {
        int r = (bits & 0x5555) << 1 | bits >> 1 & 0x5555;
        r = (r & 0x3333) << 2 | r >> 2 & 0x3333;
        r = (r & 0x0F0F) << 4 | r >> 4 & 0x0F0F;
        return (r & 0x00FF) << 8 | r >> 8 & 0x00FF;
    }

    /** The bytes that were fed, and a reader of them that keeps the first fault. */
    private static final class Tape {
        static final int LENGTH = 320;
        static final int FED_AT_ONCE = 20;
        static final int END = -1;
        static final int MOST_DIGITS = 5;
        static final int CANT_STAND = 1;
        static final int SIXTH_DIGIT = 2;
        static final int NO_SUCH_NUMBER = 3;

        final int[] bytes = new int[LENGTH];
        int size = 0;
        int fault = 0;
        private int end = 0;
        private int at = 0;

        boolean hasRoom() {
            return size + FED_AT_ONCE <= LENGTH;
        }

        void append(int four) {
            for (int shift = 24; shift >= 0 && size < LENGTH; shift -= 8) {
                bytes[size] = four >> shift & 255;
                size++;
            }
        }

        boolean has(int n, int low, int high) {
            return within(n, low, high) && n <= size;
        }

        /** Begins to read the first n bytes; the tape is empty for all who ask from then on. */
        void open(int n) {
            end = n;
            at = 0;
            fault = 0;
            size = 0;
        }

        int sign() {
            return at < end && at < LENGTH ? bytes[at] : END;
        }

        void pass() {
            at++;
        }

        void failHere(int kind) {
            fail(kind, at);
        }

        private void fail(int kind, int place) {
            if (fault == 0) {
                fault = -1000 * kind - place;
            }
        }

        boolean isAtDigit() {
            return within(sign(), '0', '9');
        }

        int number(int low, int high) {
            int begin = at;
            int number = 0;
            for (int digits = 0; digits <= MOST_DIGITS && isAtDigit(); digits++) {
                if (digits == MOST_DIGITS) {
                    failHere(SIXTH_DIGIT);
                    return 0;
                }
                number = number * 10 + sign() - '0';
                pass();
            }
            if (at == begin) {
                failHere(CANT_STAND);
            } else if (!within(number, low, high)) {
                fail(NO_SUCH_NUMBER, begin);
            }
            return number;
        }

        void expect(int wanted) {
            if (sign() == wanted) {
                pass();
            } else {
                failHere(CANT_STAND);
            }
        }
    }

    /**
     * The law as code for a stack: a number that is not below 0 stands for itself, KEY for the key,
     * TURN, REVERSE and ROUND less D change the topmost, and a sign's own number, below 0, joins two.
     */
    private static final class Law {
        static final int KEY = -1;
        static final int TURN = -2;
        static final int REVERSE = -3;
        static final int ROUND = -10;
        static final int LAST_ROUND = -19;
        static final int DEEPEST = 8;

        private final int[] code = new int[LawReader.LONGEST_LAW];
        private final int[] stack = new int[DEEPEST];
        private int size = 1;

        Law() {
            code[0] = KEY;
        }

        void take(int[] newCode, int newSize) {
            size = Math.min(newSize, Math.min(code.length, newCode.length));
            System.arraycopy(newCode, 0, code, 0, size);
        }

        void copyFrom(Law other) {
            take(other.code, other.size);
        }

        int hashOf(int key) {
            int top = 0;
            for (int i = 0; i < size; i++) {
                int item = code[i];
                if (item >= KEY) {
                    if (top < DEEPEST) {
                        stack[top] = item == KEY ? key : item;
                        top++;
                    }
                } else if (item >= LAST_ROUND) {
                    if (top > 0) {
                        stack[top - 1] = changed(item, stack[top - 1]);
                    }
                } else if (top > 1) {
                    top--;
                    stack[top - 1] = joined(-item, stack[top - 1], stack[top]) & TOP;
                }
            }
            return stack[0];
        }

        private static int changed(int item, int bits) {
            if (item == TURN) {
                return ~bits & TOP;
            }
            if (item == REVERSE) {
                return reversed(bits);
            }
            int by = ROUND - item;
            return (bits << by | bits >> 16 - by) & TOP;
        }

        private static int joined(int sign, int left, int right) {
            switch (sign) {
                case '+':
                    return left + right;
                case '-':
                    return left - right;
                case '*':
                    return left * right;
                case '/':
                    return right == 0 ? 0 : left / right;
                case '%':
                    return right == 0 ? 0 : left % right;
                case '^':
                    return left ^ right;
                case '&':
                    return left & right;
                default:
                    return left | right;
            }
        }
    }

    /** Reads a law's text from the tape into code. */
    private static final class LawReader {
        static final int LONGEST_LAW = 60;
        static final int MOST_OPEN = 6;
        static final int TOO_DEEP = 5;
        private static final int BRACKET = 0;
        private static final int NO_SIGN = 0;

        final int[] code = new int[LONGEST_LAW];
        int size = 0;
        /** What each open one leaves in the code when it closes: BRACKET leaves nothing. */
        private final int[] open = new int[MOST_OPEN];
        /** The sign that waits for its right part, for each depth. */
        private final int[] waiting = new int[MOST_OPEN + 1];
        private int depth = 0;
        private boolean isPartDue = true;

        /** 0, or the first fault. */
        int read(Tape tape) {
            size = 0;
            depth = 0;
            waiting[0] = NO_SIGN;
            isPartDue = true;
            for (int i = 0; i <= LONGEST_LAW && tape.fault == 0 && !isWhole(tape); i++) {
                if (isPartDue) {
                    readPart(tape);
                } else {
                    readBehindPart(tape);
                }
            }
            return tape.fault;
        }

        private boolean isWhole(Tape tape) {
            return tape.sign() == Tape.END && !isPartDue && depth == 0;
        }

        private void readPart(Tape tape) {
            int sign = tape.sign();
            if (tape.isAtDigit()) {
                emit(tape.number(0, TOP));
                endPart();
            } else if (sign == 'k') {
                tape.pass();
                emit(Law.KEY);
                endPart();
            } else if (sign == '(' || sign == '~' || sign == '<' || sign == 'r') {
                openOne(tape, sign);
            } else {
                tape.failHere(Tape.CANT_STAND);
            }
        }

        private void openOne(Tape tape, int sign) {
            if (depth >= MOST_OPEN) {
                tape.failHere(TOO_DEEP);
                return;
            }
            tape.pass();
            int leaves = BRACKET;
            if (sign == '~') {
                leaves = Law.TURN;
            } else if (sign == 'r') {
                leaves = Law.REVERSE;
            } else if (sign == '<') {
                leaves = readRound(tape);
            }
            open[depth] = leaves;
            depth++;
            waiting[depth] = NO_SIGN;
        }

        private static int readRound(Tape tape) {
            int by = tape.sign() - '0';
            if (!tape.isAtDigit()) {
                tape.failHere(Tape.CANT_STAND);
            } else if (by == 0) {
                tape.failHere(Tape.NO_SUCH_NUMBER);
            }
            tape.pass();
            return Law.ROUND - by;
        }

        private void readBehindPart(Tape tape) {
            int sign = tape.sign();
            if (isJoiningSign(sign)) {
                tape.pass();
                waiting[depth] = sign;
                isPartDue = true;
            } else if (sign == ')' && depth > 0) {
                // behind a part the innermost that is open is a bracket: endPart() closed all others
                tape.pass();
                depth--;
                endPart();
            } else {
                tape.failHere(Tape.CANT_STAND);
            }
        }

        private static boolean isJoiningSign(int sign) {
            switch (sign) {
                case '+':
                case '-':
                case '*':
                case '/':
                case '%':
                case '^':
                case '&':
                case '|':
                    return true;
                default:
                    return false;
            }
        }

        private void endPart() {
            for (; depth > 0 && open[depth - 1] != BRACKET; depth--) {
                emit(open[depth - 1]);
            }
            if (waiting[depth] != NO_SIGN) {
                emit(-waiting[depth]);
                waiting[depth] = NO_SIGN;
            }
            isPartDue = false;
        }

        private void emit(int item) {
            if (size < LONGEST_LAW) {
                code[size] = item;
                size++;
            }
        }
    }

    /** Work, read from the tape into rows: each step's letter and its numbers. */
    private static final class Steps {
        static final int LONGEST_WORK = 120;
        static final int MOST_STEPS = 20;
        static final int TOO_MANY = 4;
        static final int MOST_AT_ONCE = 60;
        static final int FARTHEST_APART = 9999;

        final int[] letter = new int[MOST_STEPS];
        final int[] first = new int[MOST_STEPS];
        final int[] second = new int[MOST_STEPS];
        final int[] third = new int[MOST_STEPS];
        int size = 0;

        /** 0, or the first fault. */
        int read(Tape tape) {
            size = 0;
            boolean isDue = true;
            for (int i = 0; i <= MOST_STEPS && isDue; i++) {
                if (i == MOST_STEPS) {
                    tape.failHere(TOO_MANY);
                    return tape.fault;
                }
                readStep(tape, i);
                size++;
                isDue = tape.fault == 0 && tape.sign() != Tape.END;
                if (isDue) {
                    tape.expect(';');
                    isDue = tape.fault == 0;
                }
            }
            return tape.fault;
        }

        private void readStep(Tape tape, int i) {
            letter[i] = tape.sign();
            if (!isLetter(letter[i])) {
                tape.failHere(Tape.CANT_STAND);
                return;
            }
            tape.pass();
            switch (letter[i]) {
                case 'd':
                case 'g':
                    first[i] = tape.number(0, TOP);
                    break;
                case 'x':
                case 'y':
                    first[i] = tape.number(1, MOST_AT_ONCE);
                    break;
                case 'p':
                    first[i] = tape.number(0, TOP);
                    tape.expect(',');
                    second[i] = tape.number(0, TOP_VALUE);
                    break;
                case 'n':
                    first[i] = tape.number(0, TOP);
                    tape.expect(',');
                    second[i] = tape.number(1, MOST_AT_ONCE);
                    tape.expect(',');
                    third[i] = tape.number(0, FARTHEST_APART);
                    break;
                default:
                    // s and j have no numbers
                    break;
            }
        }

        private static boolean isLetter(int sign) {
            switch (sign) {
                case 'p':
                case 'd':
                case 'g':
                case 's':
                case 'j':
                case 'n':
                case 'x':
                case 'y':
                    return true;
                default:
                    return false;
            }
        }
    }

    /** A key with its value and its hash, as one number: a page's slot is one element then. */
    private static final class Entry {
        private Entry() {
        }

        static long of(int key, int value, int hash) {
            return (long) hash << 24 | (long) key << 8 | value;
        }

        static int keyOf(long entry) {
            return (int) (entry >> 8 & TOP);
        }

        static int valueOf(long entry) {
            return (int) (entry & TOP_VALUE);
        }

        static int hashOf(long entry) {
            return (int) (entry >> 24 & TOP);
        }
    }

    /**
     * Buckets as chains of pages. Key i of a bucket stands in page i / room of its chain. Each slot
     * of each page has a number of its own: the page times SLOTS and the place in the page.
     */
    private static final class Chains {
        final int[] owner = new int[PAGES];
        final int[] place = new int[PAGES];
        final int[] filled = new int[PAGES];
        private final int[] following = new int[PAGES];
        final long[] slots = new long[PAGES * SLOTS];
        private final int[] firstPage = new int[BUCKETS];
        private final int[] lastPage = new int[BUCKETS];
        final int[] keysIn = new int[BUCKETS];
        final int[] pagesIn = new int[BUCKETS];
        final long[] held = new long[KEYS];
        int heldMany = 0;
        int room = 3;

        void clear(int newRoom, int buckets) {
            room = newRoom;
            Arrays.fill(owner, NONE);
            Arrays.fill(keysIn, 0);
            Arrays.fill(pagesIn, 0);
            Arrays.fill(firstPage, NONE);
            Arrays.fill(lastPage, NONE);
            for (int b = 0; b < buckets; b++) {
                addPage(b);
            }
        }

        void copyFrom(Chains other) {
            room = other.room;
            System.arraycopy(other.owner, 0, owner, 0, PAGES);
            System.arraycopy(other.place, 0, place, 0, PAGES);
            System.arraycopy(other.filled, 0, filled, 0, PAGES);
            System.arraycopy(other.following, 0, following, 0, PAGES);
            System.arraycopy(other.slots, 0, slots, 0, PAGES * SLOTS);
            System.arraycopy(other.firstPage, 0, firstPage, 0, BUCKETS);
            System.arraycopy(other.lastPage, 0, lastPage, 0, BUCKETS);
            System.arraycopy(other.keysIn, 0, keysIn, 0, BUCKETS);
            System.arraycopy(other.pagesIn, 0, pagesIn, 0, BUCKETS);
        }

        /** A new last page of a bucket's chain. 300 keys in 64 buckets never need 256 pages. */
        int addPage(int bucket) {
            int page = 0;
            while (page < PAGES && owner[page] != NONE) {
                page++;
            }
            if (page == PAGES) {
                return NONE;
            }
            owner[page] = bucket;
            place[page] = pagesIn[bucket];
            filled[page] = 0;
            following[page] = NONE;
            if (pagesIn[bucket] == 0) {
                firstPage[bucket] = page;
            } else {
                following[lastPage[bucket]] = page;
            }
            lastPage[bucket] = page;
            pagesIn[bucket]++;
            return page;
        }

        /** Lays an entry behind the last one: whether that took a new page. */
        boolean append(int bucket, long entry) {
            int page = lastPage[bucket];
            boolean isNew = page == NONE || filled[page] >= room;
            if (isNew) {
                page = addPage(bucket);
            }
            if (page == NONE) {
                return false;
            }
            slots[page * SLOTS + filled[page]] = entry;
            filled[page]++;
            keysIn[bucket]++;
            return isNew;
        }

        /** The slot in which a bucket has a key, or NONE. */
        int slotOf(int bucket, int key) {
            int page = firstPage[bucket];
            for (int i = 0; i < pagesIn[bucket] && page != NONE; i++) {
                int begin = page * SLOTS;
                for (int slot = begin; slot < begin + filled[page]; slot++) {
                    if (Entry.keyOf(slots[slot]) == key) {
                        return slot;
                    }
                }
                page = following[page];
            }
            return NONE;
        }

        int pageAt(int bucket, int i) {
            if (i < 0 || i >= pagesIn[bucket]) {
                return NONE;
            }
            int page = firstPage[bucket];
            for (int k = 0; k < i && page != NONE; k++) {
                page = following[page];
            }
            return page;
        }

        /** The page that has key i of a bucket, or NONE. */
        int pageOfKey(int bucket, int i) {
            return i < 0 || i >= keysIn[bucket] || room < 1 ? NONE : pageAt(bucket, i / room);
        }

        int keyAt(int bucket, int i) {
            int page = pageOfKey(bucket, i);
            return page == NONE ? NOT_SO_MANY : Entry.keyOf(slots[page * SLOTS + i % room]);
        }

        /** Lays a bucket's last entry over a slot of the bucket: whether it came from another page. */
        boolean fillFromLast(int bucket, int slot) {
            int page = lastPage[bucket];
            if (page == NONE || filled[page] == 0) {
                return false;
            }
            slots[slot] = slots[page * SLOTS + filled[page] - 1];
            filled[page]--;
            keysIn[bucket]--;
            if (filled[page] == 0 && pagesIn[bucket] > 1) {
                dropLastPage(bucket);
            }
            return slot / SLOTS != page;
        }

        private void dropLastPage(int bucket) {
            int before = pageAt(bucket, pagesIn[bucket] - 2);
            if (before == NONE) {
                return;
            }
            owner[lastPage[bucket]] = NONE;
            following[before] = NONE;
            lastPage[bucket] = before;
            pagesIn[bucket]--;
        }

        /** Holds a bucket's entries, in order, in the row beside the pages. */
        void gather(int bucket) {
            heldMany = 0;
            int page = firstPage[bucket];
            for (int i = 0; i < pagesIn[bucket] && page != NONE; i++) {
                int many = Math.min(filled[page], KEYS - heldMany);
                System.arraycopy(slots, page * SLOTS, held, heldMany, many);
                heldMany += many;
                page = following[page];
            }
        }

        /** Takes all keys from a bucket and sets all its pages free, or all but the first one. */
        void empty(int bucket, boolean keepsFirst) {
            int first = firstPage[bucket];
            int page = first;
            for (int i = 0; i < pagesIn[bucket] && page != NONE; i++) {
                owner[page] = NONE;
                page = following[page];
            }
            keysIn[bucket] = 0;
            pagesIn[bucket] = 0;
            firstPage[bucket] = NONE;
            lastPage[bucket] = NONE;
            if (keepsFirst && first != NONE) {
                owner[first] = bucket;
                filled[first] = 0;
                following[first] = NONE;
                firstPage[bucket] = first;
                lastPage[bucket] = first;
                pagesIn[bucket] = 1;
            }
        }

        int usedPages() {
            int used = 0;
            for (int page = 0; page < PAGES; page++) {
                if (owner[page] != NONE) {
                    used++;
                }
            }
            return used;
        }

        int longest(int buckets) {
            int longest = 0;
            for (int b = 0; b < buckets; b++) {
                longest = Math.max(longest, pagesIn[b]);
            }
            return longest;
        }

        int withoutKeys(int buckets) {
            int many = 0;
            for (int b = 0; b < buckets; b++) {
                if (keysIn[b] == 0) {
                    many++;
                }
            }
            return many;
        }

        int allReads() {
            int reads = 0;
            for (int page = 0; page < PAGES; page++) {
                if (owner[page] != NONE) {
                    reads += filled[page] * (place[page] + 1);
                }
            }
            return reads;
        }

        int mostReads() {
            int most = 0;
            for (int page = 0; page < PAGES; page++) {
                if (owner[page] != NONE && filled[page] > 0) {
                    most = Math.max(most, place[page] + 1);
                }
            }
            return most;
        }

        int keysCosting(int reads) {
            int many = 0;
            for (int page = 0; page < PAGES; page++) {
                if (owner[page] != NONE && place[page] + 1 == reads) {
                    many += filled[page];
                }
            }
            return many;
        }
    }

    /**
     * All keys as scans tell them, each as one number that grows in that order: hash modulo n,
     * then hash by n with its 16 bits in reverse, then the key.
     */
    private static final class Order {
        private final long[] codes = new long[KEYS];
        int size = 0;

        static long codeOf(int key, int hash, int n) {
            return n < 1 ? key : (long) (hash % n) << 32 | (long) reversed(hash / n) << 16 | key;
        }

        void copyFrom(Order other) {
            size = other.size;
            System.arraycopy(other.codes, 0, codes, 0, KEYS);
        }

        /** The place of the first one that is not below a code. */
        int placeFrom(long code) {
            int low = 0;
            int high = size;
            for (int i = 0; i < KEYS && low < high; i++) {
                int middle = (low + high) / 2;
                if (codes[middle] < code) {
                    low = middle + 1;
                } else {
                    high = middle;
                }
            }
            return low;
        }

        boolean has(long code) {
            int at = placeFrom(code);
            return at < size && codes[at] == code;
        }

        void insert(long code) {
            if (size >= KEYS) {
                return;
            }
            int at = placeFrom(code);
            System.arraycopy(codes, at, codes, at + 1, size - at);
            codes[at] = code;
            size++;
        }

        void remove(long code) {
            int at = placeFrom(code);
            if (at >= size || codes[at] != code) {
                return;
            }
            System.arraycopy(codes, at + 1, codes, at, size - at - 1);
            size--;
        }

        int keyAt(int i) {
            return i < 0 || i >= size ? NONE : (int) (codes[i] & TOP);
        }

        int hashAt(int i, int n) {
            if (i < 0 || i >= size) {
                return 0;
            }
            long code = codes[i];
            return reversed((int) (code >> 16 & TOP)) * n + (int) (code >> 32);
        }
    }

    /** For each scan how many keys it told (NONE: it is not open) and the last one of them. */
    private static final class Scans {
        final int[] told = new int[SCANS];
        final int[] last = new int[SCANS];

        Scans() {
            Arrays.fill(told, NONE);
        }

        void copyFrom(Scans other) {
            System.arraycopy(other.told, 0, told, 0, SCANS);
            System.arraycopy(other.last, 0, last, 0, SCANS);
        }

        void closeAll() {
            Arrays.fill(told, NONE);
        }

        void close(int s) {
            told[s] = NONE;
        }

        boolean isOpen(int s) {
            return within(s, 0, SCANS - 1) && told[s] != NONE;
        }

        int lowestClosed() {
            for (int s = 0; s < SCANS; s++) {
                if (told[s] == NONE) {
                    return s;
                }
            }
            return NONE;
        }

        void begin(int s) {
            told[s] = 0;
            last[s] = NONE;
        }

        int openOnes() {
            int many = 0;
            for (int s = 0; s < SCANS; s++) {
                many += told[s] == NONE ? 0 : 1;
            }
            return many;
        }
    }

    /** All that keep() keeps. */
    private static final class HashFile {
        private static final int BY_HAND = 0;
        private static final int BY_LOAD = 1;
        private static final int BY_PAGES = 2;

        final Law law = new Law();
        final Chains chains = new Chains();
        final Order order = new Order();
        final Scans scans = new Scans();
        int n = 2;
        int up = 80;
        int down = 40;
        int policy = BY_LOAD;
        int level = 0;
        int pointer = 0;
        int reads = 0;
        int writes = 0;
        int splits = 0;
        int joins = 0;
        int drawn = 1;

        HashFile() {
            chains.clear(3, n);
        }

        /** An empty file; its law and what is drawn stay. */
        void reset(int newN, int c, int newUp, int newDown, int newPolicy) {
            n = newN;
            up = newUp;
            down = newDown;
            policy = newPolicy;
            level = 0;
            pointer = 0;
            reads = 0;
            writes = 0;
            splits = 0;
            joins = 0;
            order.size = 0;
            chains.clear(c, n);
            scans.closeAll();
        }

        void copyFrom(HashFile other) {
            n = other.n;
            up = other.up;
            down = other.down;
            policy = other.policy;
            level = other.level;
            pointer = other.pointer;
            reads = other.reads;
            writes = other.writes;
            splits = other.splits;
            joins = other.joins;
            drawn = other.drawn;
            law.copyFrom(other.law);
            chains.copyFrom(other.chains);
            order.copyFrom(other.order);
            scans.copyFrom(other.scans);
        }

        /** How many buckets there were when the pointer was 0 last. */
        int span() {
            return n << level;
        }

        int buckets() {
            return (n << level) + pointer;
        }

        boolean isFull() {
            return buckets() >= BUCKETS;
        }

        int load() {
            int room = buckets() * chains.room;
            return room < 1 ? 0 : 100 * order.size / room;
        }

        int addressOf(int hash) {
            return address(hash, span(), pointer);
        }

        /** The span if there were b buckets. */
        int spanAmong(int b) {
            int span = n;
            for (int i = 0; i < BUCKETS && span * 2 <= b; i++) {
                span *= 2;
            }
            return span;
        }

        /** The address if there were b buckets. */
        int addressAmong(int hash, int b) {
            int span = spanAmong(b);
            return address(hash, span, b - span);
        }

        static int address(int hash, int span, int pointer) {
            if (span < 1) {
                return 0;
            }
            int address = hash % span;
            return address < pointer ? hash % (2 * span) : address;
        }

        int hashAt(int i) {
            return order.hashAt(i, n);
        }

        boolean holds(int key, int hash) {
            return order.has(Order.codeOf(key, hash, n));
        }

        int valueOf(int key) {
            int slot = chains.slotOf(addressOf(law.hashOf(key)), key);
            return slot == NONE ? NOT_THERE : Entry.valueOf(chains.slots[slot]);
        }

        /** What a find costs, whether the key is there or not. */
        int readsFor(int key, int bucket) {
            int slot = chains.slotOf(bucket, key);
            return slot == NONE ? chains.pagesIn[bucket] : chains.place[slot / SLOTS] + 1;
        }

        /** The place in order behind a key; NONE stands ahead of all. */
        int placeBehind(int key) {
            if (key == NONE) {
                return 0;
            }
            return order.placeFrom(Order.codeOf(key, law.hashOf(key), n) + 1);
        }

        /** The value of the key, or NOT_THERE. */
        int look(int key) {
            int bucket = addressOf(law.hashOf(key));
            reads += readsFor(key, bucket);
            int slot = chains.slotOf(bucket, key);
            return slot == NONE ? NOT_THERE : Entry.valueOf(chains.slots[slot]);
        }

        /** 1 if the key was there, 0 if not, CANT if there is no room for it. */
        int store(int key, int value) {
            int hash = law.hashOf(key);
            int bucket = addressOf(hash);
            long code = Order.codeOf(key, hash, n);
            if (order.has(code)) {
                overwrite(bucket, key, Entry.of(key, value, hash));
                return 1;
            }
            if (order.size >= KEYS) {
                return CANT;
            }
            reads += chains.pagesIn[bucket];
            boolean isNewPage = chains.append(bucket, Entry.of(key, value, hash));
            writes += isNewPage ? 2 : 1;
            order.insert(code);
            if (policy == BY_LOAD && load() > up || policy == BY_PAGES && isNewPage) {
                divide();
            }
            return 0;
        }

        private void overwrite(int bucket, int key, long entry) {
            int slot = chains.slotOf(bucket, key);
            if (slot != NONE) {
                reads += chains.place[slot / SLOTS] + 1;
                writes++;
                chains.slots[slot] = entry;
            }
        }

        /** The value that the key had, or NOT_THERE. */
        int remove(int key) {
            int hash = law.hashOf(key);
            int bucket = addressOf(hash);
            int slot = chains.slotOf(bucket, key);
            reads += chains.pagesIn[bucket];
            if (slot == NONE) {
                return NOT_THERE;
            }
            int value = Entry.valueOf(chains.slots[slot]);
            writes += chains.fillFromLast(bucket, slot) ? 2 : 1;
            order.remove(Order.codeOf(key, hash, n));
            if (policy != BY_HAND && load() < down) {
                unite();
            }
            return value;
        }

        /** Whether an entry of the bucket at the pointer goes to the new bucket. */
        boolean goesAtNextSplit(long entry) {
            int twice = 2 * span();
            return twice > 0 && Entry.hashOf(entry) % twice != pointer;
        }

        /** A split: how many keys went, or CANT. */
        int divide() {
            if (isFull()) {
                return CANT;
            }
            int old = pointer;
            int fresh = buckets();
            reads += chains.pagesIn[old];
            chains.gather(old);
            chains.empty(old, true);
            chains.addPage(fresh);
            for (int i = 0; i < chains.heldMany; i++) {
                if (!goesAtNextSplit(chains.held[i])) {
                    chains.append(old, chains.held[i]);
                }
            }
            for (int i = 0; i < chains.heldMany; i++) {
                if (goesAtNextSplit(chains.held[i])) {
                    chains.append(fresh, chains.held[i]);
                }
            }
            writes += chains.pagesIn[old] + chains.pagesIn[fresh];
            splits++;
            pointer++;
            if (pointer == span()) {
                level++;
                pointer = 0;
            }
            return chains.keysIn[fresh];
        }

        /** A join: how many keys came back, or CANT. */
        int unite() {
            if (buckets() <= n) {
                return CANT;
            }
            if (pointer == 0) {
                level--;
                pointer = span();
            }
            pointer--;
            int last = buckets();
            reads += chains.pagesIn[pointer] + chains.pagesIn[last];
            chains.gather(last);
            chains.empty(last, false);
            for (int i = 0; i < chains.heldMany; i++) {
                chains.append(pointer, chains.held[i]);
            }
            writes += chains.pagesIn[pointer];
            joins++;
            return chains.heldMany;
        }

        private void draw() {
            drawn = (25173 * drawn + 13849) & TOP;
        }

        void storeDrawn(int many) {
            for (int i = 0; i < many; i++) {
                draw();
                store(drawn, drawn & TOP_VALUE);
            }
        }

        void removeDrawn(int many) {
            for (int i = 0; i < many; i++) {
                draw();
                if (order.size > 0) {
                    remove(order.keyAt(drawn % order.size));
                }
            }
        }
    }
}
