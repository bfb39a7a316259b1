import java.util.ArrayList;
import java.util.Collections;
import java.util.Comparator;
import java.util.HashMap;
import java.util.List;
import java.util.Map;
import java.util.TreeSet;

/**
 * The document once more, in the plainest Java with the whole library: lists that are made anew,
 * laws that are read from their text each time. Random runs are told to it and to SplitBehind,
 * and both must answer alike. It shares no code with SplitBehind.
 */
public final class Model {
    private record Entry(int key, int value) { }

    /** Hashes that were reckoned already, 1 more each, by law: only so that random runs end soon. */
    private static final Map<String, int[]> HASHES = new HashMap<>();

    /** One bucket: its keys in order, and the numbers of its pages in order. */
    private static final class Bucket {
        List<Entry> entries = new ArrayList<>();
        List<Integer> pages = new ArrayList<>();
    }

    private static final class Scan {
        int told;
        int last = -1;
    }

    private static final class State {
        int n = 2, c = 3, up = 80, down = 40, policy = 1, level, pointer;
        int reads, writes, splits, joins, x = 1;
        String law = "k";
        List<Bucket> buckets = new ArrayList<>();
        TreeSet<Integer> free = new TreeSet<>();
        Scan[] scans = new Scan[4];

        State() {
            shape(2, 3, 80, 40, 1);
        }

        void shape(int n, int c, int up, int down, int policy) {
            this.n = n; this.c = c; this.up = up; this.down = down; this.policy = policy;
            level = 0; pointer = 0; reads = 0; writes = 0; splits = 0; joins = 0;
            buckets.clear();
            free.clear();
            for (int i = 0; i < 256; i++) free.add(i);
            for (int i = 0; i < n; i++) { buckets.add(new Bucket()); buckets.get(i).pages.add(free.pollFirst()); }
            scans = new Scan[4];
        }

        State copy() {
            State s = new State();
            s.n = n; s.c = c; s.up = up; s.down = down; s.policy = policy; s.level = level; s.pointer = pointer;
            s.reads = reads; s.writes = writes; s.splits = splits; s.joins = joins; s.x = x; s.law = law;
            s.buckets = new ArrayList<>();
            for (Bucket b : buckets) {
                Bucket d = new Bucket();
                d.entries.addAll(b.entries);
                d.pages.addAll(b.pages);
                s.buckets.add(d);
            }
            s.free = new TreeSet<>(free);
            for (int i = 0; i < 4; i++) {
                if (scans[i] != null) {
                    s.scans[i] = new Scan();
                    s.scans[i].told = scans[i].told;
                    s.scans[i].last = scans[i].last;
                }
            }
            return s;
        }

        int hash(int key) {
            int[] known = HASHES.computeIfAbsent(law, l -> new int[65536]);
            if (known[key] == 0) known[key] = 1 + new LawText(law, key).whole();
            return known[key] - 1;
        }

        int power() { return n * (1 << level); }

        int address(int key) {
            int h = hash(key);
            int a = h % power();
            return a < pointer ? h % (2 * power()) : a;
        }

        int whereIn(int key, int b) {
            int l = 0;
            while (n * (1 << (l + 1)) <= b) l++;
            int p = b - n * (1 << l);
            int h = hash(key);
            int a = h % (n << l);
            return a < p ? h % (n << (l + 1)) : a;
        }

        int keys() { return buckets.stream().mapToInt(b -> b.entries.size()).sum(); }
        int load() { return 100 * keys() / (buckets.size() * c); }

        int index(int key) {
            List<Entry> in = buckets.get(address(key)).entries;
            for (int i = 0; i < in.size(); i++) if (in.get(i).key() == key) return i;
            return -1;
        }

        boolean there(int key) { return index(key) >= 0; }
        int value(int key) { return buckets.get(address(key)).entries.get(index(key)).value(); }

        int findCost(int key) {
            int i = index(key);
            return i < 0 ? buckets.get(address(key)).pages.size() : i / c + 1;
        }

        boolean lay(Bucket b, Entry e) {
            boolean fresh = b.entries.size() == b.pages.size() * c;
            if (fresh) b.pages.add(free.pollFirst());
            b.entries.add(e);
            return fresh;
        }

        int put(int key, int value) {
            Bucket b = buckets.get(address(key));
            int i = index(key);
            if (i >= 0) {
                reads += i / c + 1;
                writes += 1;
                b.entries.set(i, new Entry(key, value));
                return 1;
            }
            if (keys() == 300) return -3;
            reads += b.pages.size();
            boolean fresh = lay(b, new Entry(key, value));
            writes += fresh ? 2 : 1;
            boolean wants = policy == 1 ? load() > up : policy == 2 && fresh;
            if (wants && buckets.size() < 64) split();
            return 0;
        }

        int drop(int key) {
            Bucket b = buckets.get(address(key));
            int i = index(key);
            reads += b.pages.size();
            if (i < 0) return -2;
            int value = b.entries.get(i).value();
            int end = b.entries.size() - 1;
            writes += 1;
            if (i / c != end / c) writes += 1;
            Entry last = b.entries.remove(end);
            if (i != end) b.entries.set(i, last);
            if (b.pages.size() > 1 && b.entries.size() <= (b.pages.size() - 1) * c) free.add(b.pages.remove(b.pages.size() - 1));
            if (policy > 0 && load() < down && buckets.size() > n) join();
            return value;
        }

        int split() {
            if (buckets.size() == 64) return -3;
            Bucket old = buckets.get(pointer);
            reads += old.pages.size();
            List<Entry> all = old.entries;
            old.entries = new ArrayList<>();
            while (old.pages.size() > 1) free.add(old.pages.remove(1));
            Bucket fresh = new Bucket();
            buckets.add(fresh);
            fresh.pages.add(free.pollFirst());
            for (Entry e : all) if (hash(e.key()) % (2 * power()) == pointer) lay(old, e);
            for (Entry e : all) if (hash(e.key()) % (2 * power()) != pointer) lay(fresh, e);
            writes += old.pages.size() + fresh.pages.size();
            splits++;
            pointer++;
            if (pointer == power()) { level++; pointer = 0; }
            return fresh.entries.size();
        }

        int join() {
            if (buckets.size() == n) return -3;
            if (pointer == 0) { level--; pointer = power(); }
            pointer--;
            Bucket last = buckets.remove(buckets.size() - 1);
            Bucket one = buckets.get(pointer);
            reads += one.pages.size() + last.pages.size();
            free.addAll(last.pages);
            for (Entry e : last.entries) lay(one, e);
            writes += one.pages.size();
            joins++;
            return last.entries.size();
        }

        void draw() { x = (int) ((25173L * x + 13849L) % 65536L); }

        void grow(int m) {
            for (int i = 0; i < m; i++) { draw(); put(x, x % 256); }
        }

        List<Integer> order() {
            List<Integer> all = new ArrayList<>();
            for (Bucket b : buckets) for (Entry e : b.entries) all.add(e.key());
            Collections.sort(all, this::compare);
            return all;
        }

        int compare(int one, int other) {
            int g = hash(one), h = hash(other);
            if (g % n != h % n) return Integer.compare(g % n, h % n);
            int r = Integer.reverse(g / n) >>> 16, s = Integer.reverse(h / n) >>> 16;
            return r != s ? Integer.compare(r, s) : Integer.compare(one, other);
        }

        List<Integer> toCome(Scan s) {
            List<Integer> all = order();
            if (s.last >= 0) all.removeIf(k -> compare(k, s.last) <= 0);
            return all;
        }
    }

    /** Reads and reckons a law's text at once, by descent. */
    private static final class LawText {
        final String text;
        final int key;
        int at;
        int fault;

        LawText(String text, int key) { this.text = text; this.key = key; }

        int whole() {
            int v = expression(0);
            if (fault == 0 && at < text.length()) fail(1, at);
            return v;
        }

        void fail(int kind, int place) { if (fault == 0) fault = -1000 * kind - place; }
        char sign() { return at < text.length() ? text.charAt(at) : '\uffff'; }

        int expression(int depth) {
            int v = part(depth);
            while (fault == 0 && at < text.length() && "+-*/%^&|".indexOf(sign()) >= 0) {
                char op = text.charAt(at++);
                long w = part(depth);
                long r = switch (op) {
                    case '+' -> v + w;
                    case '-' -> v - w + 65536;
                    case '*' -> v * w;
                    case '/' -> w == 0 ? 0 : v / w;
                    case '%' -> w == 0 ? 0 : v % w;
                    case '^' -> v ^ w;
                    case '&' -> v & w;
                    default -> v | w;
                };
                v = (int) (r % 65536);
            }
            return v;
        }

        int part(int depth) {
            if (fault != 0) return 0;
            char s = sign();
            if (s >= '0' && s <= '9') return number();
            if (s == 'k') { at++; return key; }
            if (at >= text.length() || "(~<r".indexOf(s) < 0) { fail(1, at); return 0; }
            if (depth == 6) { fail(5, at); return 0; }
            at++;
            if (s == '(') {
                int v = expression(depth + 1);
                if (sign() == ')') at++; else fail(1, at);
                return v;
            }
            if (s == '~') return 65535 - part(depth + 1);
            if (s == 'r') return Integer.reverse(part(depth + 1)) >>> 16;
            char d = sign();
            if (d < '0' || d > '9') { fail(1, at); return 0; }
            if (d == '0') { fail(3, at); return 0; }
            at++;
            int v = part(depth + 1);
            for (int i = 0; i < d - '0'; i++) v = v * 2 % 65536 + v / 32768;
            return v;
        }

        int number() {
            int begin = at;
            while (sign() >= '0' && sign() <= '9') {
                if (at - begin == 5) { fail(2, at); return 0; }
                at++;
            }
            int v = Integer.parseInt(text.substring(begin, at));
            if (v > 65535) fail(3, begin);
            return v;
        }
    }

    /** Reads work into rows: letter, numbers. */
    private static final class WorkText {
        final String text;
        int at;
        int fault;
        final List<int[]> steps = new ArrayList<>();

        WorkText(String text) { this.text = text; }

        void fail(int kind, int place) { if (fault == 0) fault = -1000 * kind - place; }
        int sign() { return at < text.length() ? text.charAt(at) : -1; }

        void read() {
            do {
                if (steps.size() == 20) { fail(4, at); return; }
                step();
                if (fault != 0) return;
                if (at == text.length()) return;
                if (sign() != ';') { fail(1, at); return; }
                at++;
            } while (true);
        }

        void step() {
            int letter = sign();
            int[][] ranges = switch (letter) {
                case 'p' -> new int[][] {{0, 65535}, {0, 255}};
                case 'd', 'g' -> new int[][] {{0, 65535}};
                case 's', 'j' -> new int[][] {};
                case 'n' -> new int[][] {{0, 65535}, {1, 60}, {0, 9999}};
                case 'x', 'y' -> new int[][] {{1, 60}};
                default -> null;
            };
            if (ranges == null) { fail(1, at); return; }
            at++;
            int[] step = new int[4];
            step[0] = letter;
            for (int i = 0; i < ranges.length && fault == 0; i++) {
                if (i > 0) {
                    if (sign() != ',') { fail(1, at); return; }
                    at++;
                }
                step[i + 1] = number(ranges[i][0], ranges[i][1]);
            }
            steps.add(step);
        }

        int number(int low, int high) {
            StringBuilder digits = new StringBuilder();
            int begin = at;
            while (Character.isDigit(sign()) && sign() < 128) {
                if (digits.length() == 5) { fail(2, at); return 0; }
                digits.append((char) sign());
                at++;
            }
            if (digits.length() == 0) { fail(1, at); return 0; }
            int v = Integer.parseInt(digits.toString());
            if (v < low || v > high) fail(3, begin);
            return v;
        }
    }

    private State f = new State();
    private State kept;
    private String tape = "";

    public Model() {
        if (HASHES.size() > 500) HASHES.clear();
    }

    private static boolean key(int k) { return k >= 0 && k <= 65535; }
    private boolean amount(int b) { return b >= f.n && b <= 64; }

    public int feed(int a, int b, int c, int d, int e) {
        if (tape.length() + 20 > 320) return -1;
        for (int four : new int[] {a, b, c, d, e}) {
            tape += "" + (char) (four >>> 24) + (char) (four >> 16 & 255) + (char) (four >> 8 & 255) + (char) (four & 255);
        }
        return tape.length();
    }

    private String take(int n) {
        String s = tape.substring(0, n);
        tape = "";
        return s;
    }

    public boolean shape(int n, int c, int up, int down, int policy) {
        if (n < 1 || n > 4 || c < 2 || c > 6 || up < 50 || up > 300 || down < 0 || down > 49 || policy < 0 || policy > 2) return false;
        f.shape(n, c, up, down, policy);
        return true;
    }

    public int law(int n) {
        if (n < 1 || n > 60 || n > tape.length()) return -1;
        String text = take(n);
        if (f.keys() > 0) return -3;
        LawText reader = new LawText(text, 0);
        reader.whole();
        if (reader.fault != 0) return reader.fault;
        f.law = text;
        return 0;
    }

    public int work(int n) {
        if (n < 1 || n > 120 || n > tape.length()) return -1;
        WorkText reader = new WorkText(take(n));
        reader.read();
        if (reader.fault != 0) return reader.fault;
        for (int[] s : reader.steps) {
            switch (s[0]) {
                case 'p' -> f.put(s[1], s[2]);
                case 'd' -> f.drop(s[1]);
                case 'g' -> find(s[1]);
                case 's' -> f.split();
                case 'j' -> f.join();
                case 'n' -> { for (int i = 0; i < s[2]; i++) f.put((s[1] + i * s[3]) % 65536, (s[1] + i * s[3]) % 65536 % 256); }
                case 'x' -> f.grow(s[1]);
                default -> {
                    for (int i = 0; i < s[1]; i++) {
                        f.draw();
                        List<Integer> order = f.order();
                        if (!order.isEmpty()) f.drop(order.get(f.x % order.size()));
                    }
                }
            }
        }
        return reader.steps.size();
    }

    public int put(int k, int value) { return !key(k) || value < 0 || value > 255 ? -1 : f.put(k, value); }

    public int find(int k) {
        if (!key(k)) return -1;
        f.reads += f.findCost(k);
        return f.there(k) ? f.value(k) : -2;
    }

    public int drop(int k) { return key(k) ? f.drop(k) : -1; }
    public int split() { return f.split(); }
    public int join() { return f.join(); }

    public int fileIs(int what) {
        return switch (what) {
            case 0 -> f.n;
            case 1 -> f.c;
            case 2 -> f.up;
            case 3 -> f.down;
            case 4 -> f.policy;
            case 5 -> f.level;
            case 6 -> f.pointer;
            case 7 -> f.buckets.size();
            case 8 -> f.keys();
            case 9 -> 256 - f.free.size();
            case 10 -> f.load();
            case 11 -> f.reads;
            case 12 -> f.writes;
            case 13 -> f.buckets.stream().mapToInt(b -> b.pages.size()).max().getAsInt();
            case 14 -> (int) f.buckets.stream().filter(b -> b.entries.isEmpty()).count();
            case 15 -> f.splits;
            case 16 -> f.joins;
            default -> -1;
        };
    }

    public int keyIs(int k, int what) {
        if (!key(k)) return -1;
        switch (what) {
            case 0: return f.hash(k);
            case 1: return f.address(k);
            case 2:
                int moves = 0;
                for (int b = f.n + 1; b <= 64; b++) if (f.whereIn(k, b) != f.whereIn(k, b - 1)) moves++;
                return moves;
            case 3: return f.findCost(k);
            case 4:
                if (f.buckets.size() == 64) return -3;
                int a = f.address(k);
                return a != f.pointer ? a : f.hash(k) % (2 * f.power());
            default: return -1;
        }
    }

    public int where(int k, int b) { return key(k) && amount(b) ? f.whereIn(k, b) : -1; }

    public int bucket(int i, int what) {
        if (i < 0 || i >= f.buckets.size()) return -1;
        Bucket b = f.buckets.get(i);
        if (what == 0) return b.entries.size();
        if (what == 1) return b.pages.size();
        if (what < 100) return -1;
        if (what < 1000) return what - 100 < b.pages.size() ? b.pages.get(what - 100) : -4;
        return what - 1000 < b.entries.size() ? b.entries.get(what - 1000).key() : -4;
    }

    public int page(int page, int what) {
        if (page < 0 || page > 255 || what < 0 || what > 2 && what < 10 || what > 15) return -1;
        for (int i = 0; i < f.buckets.size(); i++) {
            Bucket b = f.buckets.get(i);
            int at = b.pages.indexOf(page);
            if (at < 0) continue;
            int from = at * f.c;
            int many = Math.min(f.c, b.entries.size() - from);
            if (what == 0) return i;
            if (what == 1) return at;
            if (what == 2) return many;
            return what - 10 < many ? b.entries.get(from + what - 10).key() : -4;
        }
        return -2;
    }

    public int chains(int pages) {
        return pages < 1 || pages > 150 ? -1 : (int) f.buckets.stream().filter(b -> b.pages.size() == pages).count();
    }

    public int finds(int what) {
        return switch (what) {
            case 0 -> f.order().stream().mapToInt(f::findCost).sum();
            case 1 -> f.order().stream().mapToInt(f::findCost).max().orElse(0);
            case 2 -> f.buckets.stream().mapToInt(b -> b.pages.size()).sum();
            default -> -1;
        };
    }

    public int next(int i) {
        if (i < -1) return -9;
        if (f.buckets.size() == 64) return -3;
        List<Integer> go = new ArrayList<>();
        for (Entry e : f.buckets.get(f.pointer).entries) if (f.hash(e.key()) % (2 * f.power()) != f.pointer) go.add(e.key());
        if (i == -1) return go.size();
        return i < go.size() ? go.get(i) : -4;
    }

    public int parted(int k, int other) {
        if (!key(k) || !key(other) || k == other) return -1;
        for (int b = f.n; b <= 64; b++) if (f.whereIn(k, b) != f.whereIn(other, b)) return b;
        return -2;
    }

    private List<List<Integer>> laidIn(int b) {
        List<List<Integer>> all = new ArrayList<>();
        for (int i = 0; i < b; i++) all.add(new ArrayList<>());
        for (int k : f.order()) all.get(f.whereIn(k, b)).add(k);
        return all;
    }

    public int enough(int keys) {
        if (keys < 1 || keys > 300) return -1;
        for (int b = f.n; b <= 64; b++) if (laidIn(b).stream().allMatch(in -> in.size() <= keys)) return b;
        return -2;
    }

    public int anew(int b, int what) {
        if (!amount(b) || what < 0 || what > 3) return -1;
        int pages = 0, longest = 0, empty = 0, reads = 0;
        for (List<Integer> in : laidIn(b)) {
            int p = in.isEmpty() ? 1 : (in.size() - 1) / f.c + 1;
            pages += p;
            longest = Math.max(longest, p);
            if (in.isEmpty()) empty++;
            for (int i = 0; i < in.size(); i++) reads += i / f.c + 1;
        }
        return new int[] {pages, longest, empty, reads}[what];
    }

    public int torn(int kind, int w, int what) {
        if (kind < 0 || kind > 1 || w < 0 || what < 0 || what > 1) return -1;
        if (f.buckets.size() == 64) return -3;
        State g = f.copy();
        g.split();
        Bucket before = f.buckets.get(f.pointer), old = g.buckets.get(f.pointer), fresh = g.buckets.get(g.buckets.size() - 1);
        List<List<Integer>> contents = new ArrayList<>();
        for (int i = 0; i < 256; i++) contents.add(new ArrayList<>());
        for (int i = 0; i < before.entries.size(); i++) contents.get(before.pages.get(i / f.c)).add(before.entries.get(i).key());
        int left = w;
        for (Bucket b : kind == 0 ? List.of(old, fresh) : List.of(fresh, old)) {
            for (int i = 0; i < b.pages.size() && left > 0; i++, left--) {
                List<Integer> in = contents.get(b.pages.get(i));
                in.clear();
                for (int j = i * f.c; j < b.entries.size() && j < (i + 1) * f.c; j++) in.add(b.entries.get(j).key());
            }
        }
        if (left > 0) return -4;
        int lost = 0, twice = 0;
        for (Entry e : before.entries) {
            int many = 0;
            for (List<Integer> in : contents) if (in.contains(e.key())) many++;
            if (many == 0) lost++;
            if (many == 2) twice++;
        }
        return what == 0 ? lost : twice;
    }

    public int grown(int m, int what) {
        if (m < 1 || m > 99 || what < 0 || what > 5) return -1;
        State g = f.copy();
        g.reads = 0;
        g.writes = 0;
        g.grow(m);
        return new int[] {g.buckets.size(), g.load(), 256 - g.free.size(), g.keys(), g.reads, g.writes}[what];
    }

    public int tuned(int what) {
        if (what < 0 || what > 1) return -1;
        List<Integer> order = f.order();
        return Collections.min(List.of(2, 3, 4, 5, 6), Comparator.comparing(c -> {
            State g = f.copy();
            g.shape(f.n, c, f.up, f.down, f.policy);
            for (int k : order) g.put(k, 0);
            return what == 0 ? order.stream().mapToInt(g::findCost).sum() : (256 - g.free.size()) * c;
        }));
    }

    private int sign(int k) { return 1 << (f.hash(k) / 4096) | 1 << (f.hash(k) % 16); }

    public int signs(int i) {
        if (i < 0 || i >= f.buckets.size()) return -1;
        int all = 0;
        for (Entry e : f.buckets.get(i).entries) all |= sign(e.key());
        return all;
    }

    public int passed(int a) {
        if (!key(a)) return -1;
        int many = 0;
        for (int i = 0; i < 256; i++) {
            int k = (a + i) % 65536;
            if (!f.there(k) && (signs(f.address(k)) & sign(k)) == sign(k)) many++;
        }
        return many;
    }

    public int costing(int reads) {
        return reads < 1 || reads > 150 ? -1 : (int) f.order().stream().filter(k -> f.findCost(k) == reads).count();
    }

    public int since(int what) {
        if (what < 0 || what > 3) return -1;
        if (kept == null) return -3;
        List<Integer> now = f.order(), then = kept.order();
        return switch (what) {
            case 0 -> (int) now.stream().filter(k -> !then.contains(k)).count();
            case 1 -> (int) then.stream().filter(k -> !now.contains(k)).count();
            case 2 -> (int) now.stream().filter(k -> then.contains(k) && f.value(k) != kept.value(k)).count();
            default -> (int) now.stream().filter(k -> then.contains(k) && f.address(k) != kept.address(k)).count();
        };
    }

    public int alike(int what) {
        if (what < 0 || what > 2) return -1;
        int[] by = new int[65536];
        for (int k : f.order()) by[f.hash(k)]++;
        int together = 0, best = 0;
        for (int h = 0; h < 65536; h++) {
            if (by[h] > 1) together += by[h];
            if (by[h] > by[best]) best = h;
        }
        if (what == 0) return together;
        if (what == 2) return by[best];
        return f.keys() == 0 ? -2 : best;
    }

    public int inOrder(int i) { return i < 0 ? -1 : i < f.keys() ? f.order().get(i) : -4; }

    public int between(int low, int high) {
        if (!key(low) || !key(high) || low > high) return -1;
        return (int) f.order().stream().filter(k -> k >= low && k <= high).count();
    }

    public int bits(int a, int i, int what) {
        if (!key(a) || i < 0 || i > 15 || what < 0 || what > 16) return -1;
        int many = 0;
        for (int j = 0; j < 256; j++) {
            int k = (a + j) % 65536;
            boolean one = (f.hash(k) >> i & 1) == 1;
            if (what == 0 ? one : one != ((f.hash(k ^ 1 << what - 1) >> i & 1) == 1)) many++;
        }
        return many;
    }

    private Scan open(int s) { return s < 0 || s > 3 ? null : f.scans[s]; }

    public int scan() {
        for (int s = 0; s < 4; s++) {
            if (f.scans[s] == null) {
                f.scans[s] = new Scan();
                return s;
            }
        }
        return -3;
    }

    public int tell(int s) {
        if (open(s) == null) return -1;
        List<Integer> rest = f.toCome(open(s));
        if (rest.isEmpty()) return -2;
        open(s).told++;
        open(s).last = rest.get(0);
        return rest.get(0);
    }

    public int scanIs(int s, int what) {
        if (open(s) == null || what < 0 || what > 2) return -1;
        if (what == 0) return open(s).told;
        if (what == 1) return f.toCome(open(s)).size();
        return open(s).last < 0 ? -2 : open(s).last;
    }

    public int reach(int s) {
        return open(s) == null ? -1 : (int) f.toCome(open(s)).stream().map(f::address).distinct().count();
    }

    public int ends(int s) {
        if (open(s) == null) return -1;
        int told = open(s).told;
        f.scans[s] = null;
        return told;
    }

    public boolean seed(int x) {
        if (x < 0 || x > 65535) return false;
        f.x = x;
        return true;
    }

    public int keep() {
        kept = f.copy();
        return f.keys();
    }

    public boolean undo() {
        if (kept == null) return false;
        f = kept.copy();
        return true;
    }

    public int check(int n) {
        if (n < 0 || n > 300 || n > tape.length()) return -2;
        String bytes = take(n);
        List<Integer> order = f.order();
        for (int i = 0; i < n; i++) if (i >= order.size() || f.value(order.get(i)) != bytes.charAt(i)) return i;
        return -1;
    }

    public int count(int what) {
        return switch (what) {
            case 0 -> f.keys();
            case 1 -> f.buckets.size();
            case 2 -> tape.length();
            case 3 -> f.x;
            case 4 -> {
                int many = 0;
                for (Scan s : f.scans) if (s != null) many++;
                yield many;
            }
            default -> -1;
        };
    }
}
