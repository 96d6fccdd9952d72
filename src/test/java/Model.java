import java.util.ArrayList;
import java.util.Arrays;
import java.util.Comparator;
import java.util.HashSet;
import java.util.List;
import java.util.Set;
import java.util.TreeMap;

/**
 * The document again, written another way: entries are objects, what may have to go back is copied
 * whole, a chain is the first of all that there are, what can be arranged is counted over sets of
 * buckets. Slow, and only for comparing answers.
 */
final class Model {
    static final int NONE = -1;

    static final class Entry {
        int key;
        int value;
        int born;
        int moved;

        Entry(int key, int value, int born, int moved) {
            this.key = key;
            this.value = value;
            this.born = born;
            this.moved = moved;
        }

        Entry copy() {
            return new Entry(key, value, born, moved);
        }
    }

    /** buckets, slots, stash, depth, tries, seed, kick, full, a, b, c, d: as in a text, in this order. */
    static final class State {
        int buckets = 4;
        int slots = 2;
        int stashMost = 2;
        int depth = 6;
        int tries = 2;
        int kick = 2;
        int full = 0;
        int[] one = {3, 1};
        int[] two = {5, 2};
        int seed = 0;
        Entry[][] places = new Entry[4][2];
        List<Entry> stash = new ArrayList<>();
        int puts;
        int refused;
        int rehashed;
        int doubled;
        int read;
        int longest;
        String tape = "";
        int fault = 0;
        int faultPlace = NONE;

        State copy() {
            State c = new State();
            c.buckets = buckets;
            c.slots = slots;
            c.stashMost = stashMost;
            c.depth = depth;
            c.tries = tries;
            c.kick = kick;
            c.full = full;
            c.one = one.clone();
            c.two = two.clone();
            c.seed = seed;
            c.places = new Entry[buckets][slots];
            for (int b = 0; b < buckets; b++) {
                for (int p = 0; p < slots; p++) {
                    c.places[b][p] = places[b][p] == null ? null : places[b][p].copy();
                }
            }
            for (Entry e : stash) {
                c.stash.add(e.copy());
            }
            c.puts = puts;
            c.refused = refused;
            c.rehashed = rehashed;
            c.doubled = doubled;
            c.read = read;
            c.longest = longest;
            c.tape = tape;
            c.fault = fault;
            c.faultPlace = faultPlace;
            return c;
        }

        void empty() {
            places = new Entry[buckets][slots];
            stash = new ArrayList<>();
        }

        int draw(int n) {
            seed = (int) ((long) seed * 1103515245L + 12345L);
            return (int) (((seed & 0xffffffffL) >> 16) % n);
        }

        int first(int key) {
            return Math.floorMod(one[0] * key + one[1], 1009) % buckets;
        }

        int second(int key) {
            return Math.floorMod(two[0] * key + two[1], 1009) % buckets;
        }

        int other(int key, int bucket) {
            int f = first(key);
            int s = second(key);
            return f == s ? NONE : f + s - bucket;
        }

        int free(int bucket) {
            return Arrays.asList(places[bucket]).indexOf(null);
        }

        List<Entry> all() {
            List<Entry> list = new ArrayList<>();
            for (Entry[] row : places) {
                for (Entry e : row) {
                    if (e != null) {
                        list.add(e);
                    }
                }
            }
            list.addAll(stash);
            return list;
        }

        Entry find(int key) {
            return all().stream().filter(e -> e.key == key).findFirst().orElse(null);
        }

        int bucketOf(Entry e) {
            for (int b = 0; b < buckets; b++) {
                if (Arrays.asList(places[b]).contains(e)) {
                    return b;
                }
            }
            return 100;
        }

        int placeOf(Entry e) {
            int b = bucketOf(e);
            return b == 100 ? stash.indexOf(e) : Arrays.asList(places[b]).indexOf(e);
        }

        int readOf(int key) {
            int read = 1;
            if (holds(first(key), key)) {
                return read;
            }
            if (second(key) != first(key)) {
                read++;
                if (holds(second(key), key)) {
                    return read;
                }
            }
            return stash.isEmpty() ? read : read + 1;
        }

        private boolean holds(int bucket, int key) {
            for (Entry e : places[bucket]) {
                if (e != null && e.key == key) {
                    return true;
                }
            }
            return false;
        }

        /** The chain as {bucket, place} pairs, the last one the bucket with an empty place; or null. */
        List<int[]> chain(int key) {
            int f = first(key);
            int s = second(key);
            for (int length = 1; length <= buckets; length++) {
                int[] starts = f == s ? new int[] {f} : new int[] {f, s};
                for (int start : starts) {
                    List<int[]> links = new ArrayList<>();
                    Set<Integer> used = new HashSet<>();
                    used.add(start);
                    if (extend(start, length, links, used, f, s)) {
                        return links;
                    }
                }
            }
            return null;
        }

        private boolean extend(
                int bucket, int left, List<int[]> links, Set<Integer> used, int f, int s) {
            for (int p = 0; p < slots; p++) {
                Entry e = places[bucket][p];
                int o = e == null ? NONE : other(e.key, bucket);
                if (o == NONE || !used.add(o)) {
                    continue;
                }
                links.add(new int[] {bucket, p});
                if (left == 1) {
                    if (o != f && o != s && free(o) >= 0) {
                        links.add(new int[] {o, free(o)});
                        return true;
                    }
                } else if (extend(o, left - 1, links, used, f, s)) {
                    return true;
                }
                links.remove(links.size() - 1);
                used.remove(o);
            }
            return false;
        }

        void follow(List<int[]> links, Entry fresh) {
            for (int k = links.size() - 2; k >= 0; k--) {
                int[] from = links.get(k);
                int[] to = links.get(k + 1);
                Entry e = places[from[0]][from[1]];
                e.moved++;
                places[to[0]][to[1]] = e;
            }
            places[links.get(0)[0]][links.get(0)[1]] = fresh;
            longest = Math.max(longest, links.size() - 1);
        }

        boolean toFree(Entry e) {
            int b = free(first(e.key)) >= 0 ? first(e.key) : second(e.key);
            if (free(b) < 0) {
                return false;
            }
            places[b][free(b)] = e;
            return true;
        }

        int comeIn(Entry e) {
            if (toFree(e)) {
                return 1;
            }
            if (kick == 2) {
                List<int[]> links = chain(e.key);
                if (links != null && links.size() - 1 <= depth) {
                    follow(links, e);
                    return 2;
                }
            }
            if (kick == 1 && walk(e)) {
                return 2;
            }
            if (stash.size() < stashMost) {
                stash.add(e);
                return 3;
            }
            return 0;
        }

        private boolean walk(Entry fresh) {
            Entry[][] were = new Entry[buckets][];
            for (int b = 0; b < buckets; b++) {
                were[b] = places[b].clone();
            }
            TreeMap<Integer, Integer> moves = new TreeMap<>();
            Entry hand = fresh;
            int bucket = first(fresh.key);
            for (int n = 0; n < depth; n++) {
                int p = draw(slots);
                Entry out = places[bucket][p];
                moves.merge(out.key, 1, Integer::sum);
                places[bucket][p] = hand;
                hand = out;
                int o = other(hand.key, bucket);
                bucket = o == NONE ? bucket : o;
                if (free(bucket) >= 0) {
                    places[bucket][free(bucket)] = hand;
                    for (Entry e : all()) {
                        e.moved += moves.getOrDefault(e.key, 0);
                    }
                    return true;
                }
            }
            places = were;
            return false;
        }

        /** All of a list come in, from an empty map on; if not, this is left as it is then. */
        boolean layAll(List<Entry> list) {
            empty();
            for (Entry e : list) {
                if (comeIn(e.copy()) == 0) {
                    return false;
                }
            }
            return true;
        }
    }

    State now = new State();
    final State[] images = new State[3];

    int feed(int a, int b, int c, int d, int e) {
        if (now.tape.length() > 380) {
            return NONE;
        }
        StringBuilder more = new StringBuilder();
        for (int n : new int[] {a, b, c, d, e}) {
            for (int k = 3; k >= 0; k--) {
                more.append((char) ((n >> (8 * k)) & 255));
            }
        }
        now.tape += more;
        return now.tape.length();
    }

    int end(int n) {
        if (n < 0 || n > now.tape.length()) {
            return NONE;
        }
        now.tape = now.tape.substring(0, n);
        return n;
    }

    int text() {
        String tape = now.tape;
        now.tape = "";
        ModelText read = new ModelText(tape);
        now.fault = read.fault;
        now.faultPlace = read.faultPlace;
        if (read.fault != 0) {
            return NONE;
        }
        State told = read.state;
        told.empty();
        for (int[] has : read.has) {
            if (put(told, has[0], has[1]) < 0) {
                now.fault = 4;
                now.faultPlace = has[2];
                return NONE;
            }
        }
        now = told;
        return now.all().size();
    }

    int fault(int what) {
        return what == 0 ? now.fault : what == 1 ? now.faultPlace : NONE;
    }

    static boolean ok(int n) {
        return n >= 0 && n <= 999;
    }

    int put(int key, int value) {
        return ok(key) && ok(value) ? put(now, key, value) : NONE;
    }

    /** Puts into a state, which is changed in place. */
    static int put(State s, int key, int value) {
        s.puts++;
        Entry old = s.find(key);
        if (old != null) {
            old.value = value;
            return 0;
        }
        Entry fresh = new Entry(key, value, s.puts, 0);
        int how = s.comeIn(fresh);
        if (how != 0) {
            return how;
        }
        if (s.full == 3) {
            List<int[]> links = s.chain(key);
            if (links != null) {
                s.follow(links, fresh);
                return 2;
            }
        }
        if (s.full == 1 || s.full == 3) {
            for (int n = 0; n < s.tries; n++) {
                State c = s.copy();
                c.one = new int[] {1 + c.draw(1008), c.draw(1009)};
                c.two = new int[] {1 + c.draw(1008), c.draw(1009)};
                if (lay(s, c, fresh)) {
                    s.rehashed++;
                    return 4;
                }
            }
        }
        if (s.full == 2) {
            int doubled = 0;
            for (int b = s.buckets; b <= 8; ) {
                b *= 2;
                doubled++;
                State c = s.copy();
                c.buckets = b;
                if (lay(s, c, fresh)) {
                    s.doubled += doubled;
                    return 5;
                }
            }
        }
        s.refused++;
        return NONE;
    }

    /** All of s and a fresh one (or null) laid by c; s becomes so if it goes, else it takes the seed. */
    static boolean lay(State s, State c, Entry fresh) {
        List<Entry> list = s.all();
        if (fresh != null) {
            list.add(fresh);
        }
        boolean well = c.layAll(list);
        s.seed = c.seed;
        if (well) {
            become(s, c);
        }
        return well;
    }

    static void become(State s, State c) {
        s.buckets = c.buckets;
        s.one = c.one;
        s.two = c.two;
        s.places = c.places;
        s.stash = c.stash;
        s.longest = c.longest;
        s.seed = c.seed;
    }

    int get(int key) {
        if (!ok(key)) {
            return NONE;
        }
        now.read += now.readOf(key);
        Entry e = now.find(key);
        return e == null ? NONE : e.value;
    }

    int drop(int key) {
        return drop(now, key);
    }

    static int drop(State s, int key) {
        Entry e = ok(key) ? s.find(key) : null;
        if (e == null) {
            return NONE;
        }
        int b = s.bucketOf(e);
        if (b == 100) {
            s.stash.remove(e);
        } else {
            s.places[b][s.placeOf(e)] = null;
        }
        for (Entry x : new ArrayList<>(s.stash)) {
            if (s.toFree(x)) {
                s.stash.remove(x);
                x.moved++;
            }
        }
        return e.value;
    }

    int settle() {
        int left = 0;
        for (Entry x : new ArrayList<>(now.stash)) {
            boolean well = now.toFree(x);
            List<int[]> links = well ? null : now.chain(x.key);
            if (links != null && links.size() - 1 <= now.depth) {
                now.follow(links, x);
                well = true;
            }
            if (well) {
                x.moved++;
                now.stash.remove(x);
                left++;
            }
        }
        return left;
    }

    boolean rehash(int a, int b, int c, int d) {
        if (a < 1 || a > 1008 || b < 0 || b > 1008 || c < 1 || c > 1008 || d < 0 || d > 1008) {
            return false;
        }
        State copy = now.copy();
        copy.one = new int[] {a, b};
        copy.two = new int[] {c, d};
        boolean well = lay(now, copy, null);
        now.rehashed += well ? 1 : 0;
        return well;
    }

    static List<Entry> byKey(State s) {
        List<Entry> list = s.all();
        list.sort(Comparator.comparingInt(e -> e.key));
        return list;
    }

    /** {key, bucket} of each that is peeled. */
    static List<int[]> peels(State s) {
        List<int[]> out = new ArrayList<>();
        List<Entry> left = byKey(s);
        boolean more = true;
        while (more) {
            more = false;
            for (int b = 0; b < s.buckets && !more; b++) {
                List<Entry> those = new ArrayList<>();
                for (Entry e : left) {
                    if (s.first(e.key) == b || s.second(e.key) == b) {
                        those.add(e);
                    }
                }
                if (!those.isEmpty() && those.size() <= s.slots) {
                    more = true;
                    for (Entry e : those) {
                        out.add(new int[] {e.key, b});
                    }
                    left.removeAll(those);
                }
            }
        }
        return out;
    }

    boolean batch() {
        State c = now.copy();
        c.empty();
        List<Entry> core = byKey(now);
        for (int[] peel : peels(now)) {
            Entry e = now.find(peel[0]);
            core.remove(e);
            c.places[peel[1]][c.free(peel[1])] = e.copy();
        }
        for (Entry e : core) {
            if (c.comeIn(e.copy()) == 0) {
                now.seed = c.seed;
                return false;
            }
        }
        become(now, c);
        return true;
    }

    int peel(int k, int what) {
        List<int[]> peels = peels(now);
        if (k == -1 && what == 0) {
            return peels.size();
        }
        return k < 0 || k >= peels.size() || what < 0 || what > 1 ? -2 : peels.get(k)[what];
    }

    int load(int seed, int n) {
        return load(now, seed, n);
    }

    static int load(State s, int seed, int n) {
        if (n < 1 || n > 12) {
            return NONE;
        }
        State dice = new State();
        dice.seed = seed;
        int refused = 0;
        for (int k = 0; k < n; k++) {
            boolean drops = dice.draw(4) == 0;
            int key = dice.draw(1000);
            if (drops) {
                drop(s, key);
            } else if (put(s, key, dice.draw(1000)) < 0) {
                refused++;
            }
        }
        return refused;
    }

    int find(int key, int what) {
        Entry e = ok(key) ? now.find(key) : null;
        if (e == null) {
            return NONE;
        }
        switch (what) {
            case 0:
                return now.bucketOf(e);
            case 1:
                return now.placeOf(e);
            case 2:
                return now.readOf(key);
            case 3:
                return e.born;
            case 4:
                return e.moved;
            case 5:
                List<Entry> row = new ArrayList<>(Arrays.asList(now.places[now.first(key)]));
                if (now.first(key) != now.second(key)) {
                    row.addAll(Arrays.asList(now.places[now.second(key)]));
                }
                row.addAll(now.stash);
                row.removeIf(x -> x == null);
                return row.indexOf(e) + 1;
            default:
                return NONE;
        }
    }

    int at(int bucket, int place, int what) {
        Entry e = null;
        if (bucket == 100) {
            e = place >= 0 && place < now.stash.size() ? now.stash.get(place) : null;
        } else if (bucket >= 0 && bucket < now.buckets && place >= 0 && place < now.slots) {
            e = now.places[bucket][place];
        }
        if (e == null) {
            return NONE;
        }
        switch (what) {
            case 0:
                return e.key;
            case 1:
                return e.value;
            case 2:
                return e.born;
            case 3:
                return e.moved;
            case 4:
                boolean same = now.first(e.key) == now.second(e.key);
                return bucket == 100 && !same ? now.second(e.key) : now.other(e.key, bucket);
            default:
                return NONE;
        }
    }

    int hash(int key, boolean second) {
        return !ok(key) ? NONE : second ? now.second(key) : now.first(key);
    }

    int chain(int key, int k) {
        List<int[]> links = ok(key) ? now.chain(key) : null;
        if (links == null) {
            return -2;
        }
        if (k == -1) {
            return links.size() - 1;
        }
        return k < 0 || k >= links.size() - 1 ? -2 : 10 * links.get(k)[0] + links.get(k)[1];
    }

    int would(int key) {
        return ok(key) ? put(now.copy(), key, 0) : -2;
    }

    static Set<Integer> partOf(State s, int bucket) {
        Set<Integer> part = new HashSet<>();
        part.add(bucket);
        boolean more = true;
        while (more) {
            more = false;
            for (Entry e : s.all()) {
                if (part.contains(s.first(e.key)) || part.contains(s.second(e.key))) {
                    more |= part.add(s.first(e.key));
                    more |= part.add(s.second(e.key));
                }
            }
        }
        return part;
    }

    int part(int bucket, int what) {
        return bucket < 0 || bucket >= now.buckets ? NONE : part(now, bucket, what);
    }

    static int part(State s, int bucket, int what) {
        Set<Integer> part = partOf(s, bucket);
        int bits = 0;
        int free = 0;
        for (int b : part) {
            bits |= 1 << b;
            for (Entry e : s.places[b]) {
                free += e == null ? 1 : 0;
            }
        }
        int members = 0;
        for (Entry e : s.all()) {
            members += part.contains(s.first(e.key)) ? 1 : 0;
        }
        switch (what) {
            case 0:
                return bits;
            case 1:
                return members;
            case 2:
                return part.size() * s.slots;
            case 3:
                return members < part.size() ? 0 : members == part.size() ? 1 : 2;
            case 4:
                return free;
            default:
                return NONE;
        }
    }

    /**
     * How many of the keys at least can't be arranged: the most by which those that have both buckets
     * in a set are more than the set's places. Sets of more than 12 buckets are too many: matched then.
     */
    static int over(State s, List<Integer> keys) {
        if (s.buckets > 12) {
            return matched(s, keys);
        }
        int over = 0;
        for (int set = 1; set < 1 << s.buckets; set++) {
            int inside = 0;
            for (int key : keys) {
                boolean both = (set >> s.first(key) & 1) == 1 && (set >> s.second(key) & 1) == 1;
                inside += both ? 1 : 0;
            }
            over = Math.max(over, inside - s.slots * Integer.bitCount(set));
        }
        return over;
    }

    private static int matched(State s, List<Integer> keys) {
        List<List<Integer>> rows = new ArrayList<>();
        for (int b = 0; b < s.buckets; b++) {
            rows.add(new ArrayList<>());
        }
        int over = 0;
        for (int key : keys) {
            over += seat(s, rows, key, new HashSet<>()) ? 0 : 1;
        }
        return over;
    }

    private static boolean seat(State s, List<List<Integer>> rows, int key, Set<Integer> seen) {
        for (int b : new int[] {s.second(key), s.first(key)}) {
            if (!seen.add(b)) {
                continue;
            }
            List<Integer> row = rows.get(b);
            if (row.size() < s.slots) {
                row.add(key);
                return true;
            }
            for (int k = 0; k < row.size(); k++) {
                if (seat(s, rows, row.get(k), seen)) {
                    row.set(k, key);
                    return true;
                }
            }
        }
        return false;
    }

    List<Integer> keys() {
        List<Integer> keys = new ArrayList<>();
        for (Entry e : byKey(now)) {
            keys.add(e.key);
        }
        return keys;
    }

    boolean fits(int key) {
        if (!ok(key)) {
            return false;
        }
        List<Integer> keys = keys();
        if (!keys.contains(key)) {
            keys.add(key);
        }
        return over(now, keys) == 0;
    }

    int over() {
        return over(now, keys());
    }

    int least(int what) {
        int most = what == 0 ? 32 : what == 1 ? 9 : what == 2 ? 40 : 0;
        for (int n = 1; n <= most; n++) {
            State s = new State();
            s.buckets = what == 0 ? n : now.buckets;
            s.slots = what == 1 ? n : now.slots;
            s.one = now.one.clone();
            s.two = now.two.clone();
            if (what == 2) {
                s.seed = n;
                s.one = new int[] {1 + s.draw(1008), s.draw(1009)};
                s.two = new int[] {1 + s.draw(1008), s.draw(1009)};
            }
            if (over(s, keys()) == 0) {
                return n;
            }
        }
        return NONE;
    }

    int key(int k, boolean born) {
        List<Entry> list = byKey(now);
        if (born) {
            list.sort(Comparator.comparingInt(e -> e.born));
        }
        return k < 0 || k >= list.size() ? NONE : list.get(k).key;
    }

    int count(int what) {
        return what == 26 ? now.tape.length() : count(now, what);
    }

    static int count(State s, int what) {
        List<Entry> all = s.all();
        Set<Set<Integer>> parts = new HashSet<>();
        int tangled = 0;
        for (int b = 0; b < s.buckets; b++) {
            boolean fresh = parts.add(partOf(s, b));
            tangled += fresh && part(s, b, 3) == 2 ? 1 : 0;
        }
        int[] counts = {
            all.size(), s.buckets, s.slots, s.stashMost, s.stash.size(),
            s.buckets * s.slots - all.size() + s.stash.size(), s.depth, s.tries, s.kick, s.full,
            s.one[0], s.one[1], s.two[0], s.two[1], s.puts, s.refused, s.rehashed, s.doubled,
            all.stream().mapToInt(e -> e.moved).sum(),
            all.stream().mapToInt(e -> e.moved).max().orElse(0),
            s.read, all.stream().mapToInt(e -> s.readOf(e.key)).max().orElse(0), s.longest,
            parts.size(), tangled, s.seed
        };
        return what < 0 || what >= counts.length ? NONE : counts[what];
    }

    int filled(int many) {
        if (many < 0 || many > 4) {
            return NONE;
        }
        int buckets = 0;
        for (Entry[] row : now.places) {
            int have = 0;
            for (Entry e : row) {
                have += e == null ? 0 : 1;
            }
            buckets += have == many ? 1 : 0;
        }
        return buckets;
    }

    int restless() {
        return byKey(now).stream().max(Comparator.<Entry>comparingInt(e -> e.moved)
                .thenComparingInt(e -> -e.key)).map(e -> e.key).orElse(NONE);
    }

    int which(int answer) {
        if (answer != -1 && (answer < 1 || answer > 5)) {
            return NONE;
        }
        for (int key = 0; key < 100; key++) {
            if (now.find(key) == null && would(key) == answer) {
                return key;
            }
        }
        return NONE;
    }

    int tried(int seed, int n, int what) {
        if (n < 1 || n > 12) {
            return NONE;
        }
        State s = now.copy();
        load(s, seed, n);
        return count(s, what);
    }

    int lost(int image) {
        if (image < 0 || image > 2 || images[image] == null) {
            return NONE;
        }
        int lost = 0;
        for (Entry e : images[image].all()) {
            Entry same = now.find(e.key);
            lost += same != null && same.value == e.value ? 0 : 1;
        }
        return lost;
    }

    boolean image(int k) {
        if (k < 0 || k > 2) {
            return false;
        }
        images[k] = now.copy();
        return true;
    }

    boolean again(int k) {
        if (k < 0 || k > 2 || images[k] == null) {
            return false;
        }
        now = images[k].copy();
        return true;
    }
}
