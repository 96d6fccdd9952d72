import java.util.Arrays;

/**
 * A map of two choices: each key is in one of the two buckets that its hashes tell, or in a small
 * stash. The document's numbered promises say what every method answers.
 */
public final class TwoChoices {
    public static final int NONE = -1;

    /** The answer for "there is none" where NONE already means something else. */
    private static final int NOT_SO = -2;

    /** The number by which callers name the stash. */
    private static final int STASH_NUMBER = 100;

    private static final int NUMBERS = 1000;
    private static final int PRIME = 1009;
    private static final int MOST_BYTES = 400;
    private static final int MOST_LOADS = 12;
    private static final int IMAGES = 3;

    private static final int MOST_BUCKETS = 16;
    private static final int MOST_STASH = 4;
    private static final int MOST_DEPTH = 16;

    /** Buckets and slots that least() tries go beyond those that a map may have. */
    private static final int TRIED_BUCKETS = 32;
    private static final int TRIED_SLOTS = 9;
    private static final int TRIED_SEEDS = 40;

    /** Places in all buckets: of a map 16 times 4, of a trial 16 times 9 or 32 times 4. */
    private static final int MAP_ROOM = 64;
    private static final int TRIAL_ROOM = 144;
    private static final int MOST_ENTRIES = MAP_ROOM + MOST_STASH;

    private static final int KICK_WALK = 1;
    private static final int KICK_SHORTEST = 2;

    private static final int FULL_REHASH = 1;
    private static final int FULL_GROW = 2;
    private static final int FULL_TEST = 3;

    private static final int OLD = 0;
    private static final int BY_PLACE = 1;
    private static final int BY_KICK = 2;
    private static final int BY_STASH = 3;
    private static final int BY_REHASH = 4;
    private static final int BY_GROWTH = 5;

    private final World world = new World();
    /** Each is null till it is made, then used again. */
    private final World[] images = new World[IMAGES];
    private final Table spare = new Table(MAP_ROOM);
    private final Chain chains = new Chain();
    private final Mover mover = new Mover(chains);
    private final Roster roster = new Roster();
    private final Keeper keeper = new Keeper(mover, roster);
    private final Parts parts = new Parts();
    private final Arranger arranger = new Arranger(mover);
    private final Reader reader = new Reader(world.tape);

    public TwoChoices() {
    }

    public int feed(int a, int b, int c, int d, int e) {
        if (world.length + 20 > MOST_BYTES) {
            return NONE;
        }
        world.append(a);
        world.append(b);
        world.append(c);
        world.append(d);
        world.append(e);
        return world.length;
    }

    public int end(int n) {
        if (n < 0 || n > world.length) {
            return NONE;
        }
        world.length = n;
        return n;
    }

    public int text() {
        boolean well = reader.read(world.length) && reader.enterAll(spare, keeper);
        world.length = 0;
        world.fault = reader.fault;
        world.faultPlace = reader.faultPlace;
        if (!well) {
            return NONE;
        }
        world.table.copyFrom(spare);
        return world.table.entries();
    }

    public int fault(int what) {
        if (what == 0) {
            return world.fault;
        }
        return what == 1 ? world.faultPlace : NONE;
    }

    public int put(int key, int value) {
        if (!isNumber(key) || !isNumber(value)) {
            return NONE;
        }
        return keeper.enter(world.table, key, value);
    }

    public int get(int key) {
        if (!isNumber(key)) {
            return NONE;
        }
        Table table = world.table;
        int i = table.locate(key);
        table.read += table.readsTill(key, i);
        return i < 0 ? NONE : table.values[i];
    }

    public int drop(int key) {
        return isNumber(key) ? keeper.remove(world.table, key) : NONE;
    }

    public int settle() {
        return mover.emptyStash(world.table, true);
    }

    public boolean rehash(int a, int b, int c, int d) {
        return areHashes(a, b) && areHashes(c, d) && keeper.rehashBy(world.table, a, b, c, d);
    }

    public boolean batch() {
        return keeper.layBatch(world.table);
    }

    public int peel(int k, int what) {
        roster.peelOff(world.table);
        if (k == NONE && what == 0) {
            return roster.peeled;
        }
        if (k < 0 || k >= roster.peeled) {
            return NOT_SO;
        }
        if (what == 0) {
            return world.table.keys[roster.peels[k]];
        }
        return what == 1 ? roster.homes[k] : NOT_SO;
    }

    public int load(int seed, int n) {
        return isLoad(n) ? keeper.loadBy(world.table, seed, n) : NONE;
    }

    public int find(int key, int what) {
        Table table = world.table;
        int i = isNumber(key) ? table.locate(key) : NONE;
        if (i < 0) {
            return NONE;
        }
        boolean stashed = i >= table.room;
        switch (what) {
            case 0:
                return stashed ? STASH_NUMBER : table.bucketOf(i);
            case 1:
                return stashed ? i - table.room : i - table.startOf(table.bucketOf(i));
            case 2:
                return table.readsTill(key, i);
            case 3:
                return table.born[i];
            case 4:
                return table.moved[i];
            case 5:
                return table.entriesTill(i);
            default:
                return NONE;
        }
    }

    public int at(int bucket, int place, int what) {
        Table table = world.table;
        int i = table.indexOf(bucket, place);
        if (i < 0 || table.keys[i] < 0) {
            return NONE;
        }
        switch (what) {
            case 0:
                return table.keys[i];
            case 1:
                return table.values[i];
            case 2:
                return table.born[i];
            case 3:
                return table.moved[i];
            case 4:
                // One in the stash is asked as if it were in FIRST, so that SECOND is its other one.
                return table.otherOf(i, bucket == STASH_NUMBER ? table.firsts[i] : bucket);
            default:
                return NONE;
        }
    }

    public int hash(int key, boolean second) {
        if (!isNumber(key)) {
            return NONE;
        }
        Settings set = world.table.set;
        return second ? set.secondOf(key) : set.firstOf(key);
    }

    public int chain(int key, int k) {
        Table table = world.table;
        if (!isNumber(key)
                || !chains.seek(table, table.set.firstOf(key), table.set.secondOf(key))) {
            return NOT_SO;
        }
        if (k == NONE) {
            return chains.length;
        }
        if (k < 0 || k >= chains.length) {
            return NOT_SO;
        }
        int i = chains.path[k];
        int bucket = table.bucketOf(i);
        return 10 * bucket + i - table.startOf(bucket);
    }

    public int would(int key) {
        return isNumber(key) ? answerFor(key) : NOT_SO;
    }

    public int part(int bucket, int what) {
        Table table = world.table;
        if (bucket < 0 || bucket >= table.set.buckets) {
            return NONE;
        }
        parts.join(table);
        int label = parts.labels[bucket];
        switch (what) {
            case 0:
                return parts.bits(label);
            case 1:
                return parts.members[label];
            case 2:
                return parts.sizes[label] * table.set.slots;
            case 3:
                return parts.kindOf(label);
            case 4:
                return parts.sizes[label] * table.set.slots - parts.entriesIn(table, label);
            default:
                return NONE;
        }
    }

    public boolean fits(int key) {
        if (!isNumber(key)) {
            return false;
        }
        Table table = world.table;
        arranger.takeSettings(table);
        return arranger.allFit(table, table.locate(key) < 0 ? key : NONE);
    }

    public int over() {
        arranger.takeSettings(world.table);
        return arranger.leftOut(world.table, NONE, MOST_ENTRIES);
    }

    public int least(int what) {
        return arranger.leastOf(world.table, what);
    }

    public int key(int k, boolean born) {
        roster.gather(world.table, born);
        return k < 0 || k >= roster.all ? NONE : world.table.keys[roster.order[k]];
    }

    public int count(int what) {
        return what == 26 ? world.length : tell(world.table, what);
    }

    public int filled(int many) {
        Table table = world.table;
        if (many < 0 || many > 4) {
            return NONE;
        }
        int buckets = 0;
        for (int b = 0; b < table.set.buckets; b++) {
            if (table.fill[b] == many) {
                buckets++;
            }
        }
        return buckets;
    }

    public int restless() {
        Table table = world.table;
        roster.gather(table, false);
        int best = NONE;
        for (int k = 0; k < roster.all; k++) {
            int i = roster.order[k];
            if (best < 0 || table.moved[i] > table.moved[best]) {
                best = i;
            }
        }
        return best < 0 ? NONE : table.keys[best];
    }

    public int which(int answer) {
        if (answer != NONE && (answer < BY_PLACE || answer > BY_GROWTH)) {
            return NONE;
        }
        for (int key = 0; key < 100; key++) {
            if (answerFor(key) == answer) {
                return key;
            }
        }
        return NONE;
    }

    public int tried(int seed, int n, int what) {
        if (!isLoad(n)) {
            return NONE;
        }
        spare.copyFrom(world.table);
        keeper.loadBy(spare, seed, n);
        return tell(spare, what);
    }

    public int lost(int image) {
        World picture = imageOf(image);
        if (picture == null) {
            return NONE;
        }
        Table then = picture.table;
        Table now = world.table;
        int lost = 0;
        for (int i = 0; i < then.hand; i++) {
            int key = then.keys[i];
            if (key >= 0) {
                int j = now.locate(key);
                lost += j >= 0 && now.values[j] == then.values[i] ? 0 : 1;
            }
        }
        return lost;
    }

    public boolean image(int k) {
        if (k < 0 || k >= IMAGES) {
            return false;
        }
        if (images[k] == null) {
            images[k] = new World();
        }
        images[k].copyFrom(world);
        return true;
    }

    public boolean again(int k) {
        World picture = imageOf(k);
        if (picture == null) {
            return false;
        }
        world.copyFrom(picture);
        return true;
    }

    private World imageOf(int k) {
        return k < 0 || k >= IMAGES ? null : images[k];
    }

    private static boolean isNumber(int n) {
        return n >= 0 && n < NUMBERS;
    }

    private static boolean isLoad(int n) {
        return n >= 1 && n <= MOST_LOADS;
    }

    private static boolean areHashes(int a, int b) {
        return a >= 1 && a < PRIME && b >= 0 && b < PRIME;
    }

    /** What a PUT of the key would answer; it is done on a copy, so that nothing changes. */
    private int answerFor(int key) {
        spare.copyFrom(world.table);
        return keeper.enter(spare, key, 0);
    }

    private int tell(Table table, int what) {
        if (what >= 1 && what <= 13) {
            return tellOfSettings(table, what);
        }
        switch (what) {
            case 0:
                return table.entries();
            case 14:
                return table.puts;
            case 15:
                return table.refused;
            case 16:
                return table.rehashed;
            case 17:
                return table.doubled;
            case 18:
                return table.movedInAll();
            case 19:
                return table.movedMost();
            case 20:
                return table.read;
            case 21:
                return table.readsMost();
            case 22:
                return table.longest;
            case 23:
                return parts.join(table);
            case 24:
                parts.join(table);
                return parts.tangled(table.set.buckets);
            case 25:
                return table.set.draws.seed;
            default:
                return NONE;
        }
    }

    private static int tellOfSettings(Table table, int what) {
        Settings set = table.set;
        switch (what) {
            case 1:
                return set.buckets;
            case 2:
                return set.slots;
            case 3:
                return set.stash;
            case 4:
                return table.stashed;
            case 5:
                return set.buckets * set.slots - (table.entries() - table.stashed);
            case 6:
                return set.depth;
            case 7:
                return set.tries;
            case 8:
                return set.kick;
            case 9:
                return set.full;
            case 10:
                return set.oneA;
            case 11:
                return set.oneB;
            case 12:
                return set.twoA;
            case 13:
                return set.twoB;
            default:
                return NONE;
        }
    }

    /** Numbers that are drawn, each from the seed that the one before left. */
    private static final class Draws {
        int seed;

        int below(int n) {
            seed = seed * 1103515245 + 12345;
            return n < 1 ? 0 : (seed >>> 16) % n;
        }
    }

    private static final class Settings {
        int buckets;
        int slots;
        int stash;
        int depth;
        int tries;
        int kick;
        int full;
        int oneA;
        int oneB;
        int twoA;
        int twoB;
        final Draws draws = new Draws();

        Settings() {
            begin();
        }

        void begin() {
            buckets = 4;
            slots = 2;
            stash = 2;
            depth = 6;
            tries = 2;
            kick = KICK_SHORTEST;
            full = 0;
            takeHashes(3, 1, 5, 2);
            draws.seed = 0;
        }

        void copyFrom(Settings other) {
            buckets = other.buckets;
            slots = other.slots;
            stash = other.stash;
            depth = other.depth;
            tries = other.tries;
            kick = other.kick;
            full = other.full;
            takeHashes(other.oneA, other.oneB, other.twoA, other.twoB);
            draws.seed = other.draws.seed;
        }

        void takeHashes(int a, int b, int c, int d) {
            oneA = a;
            oneB = b;
            twoA = c;
            twoB = d;
        }

        void drawHashes() {
            oneA = 1 + draws.below(PRIME - 1);
            oneB = draws.below(PRIME);
            twoA = 1 + draws.below(PRIME - 1);
            twoB = draws.below(PRIME);
        }

        int firstOf(int key) {
            return buckets < 1 ? 0 : (oneA * key + oneB) % PRIME % buckets;
        }

        int secondOf(int key) {
            return buckets < 1 ? 0 : (twoA * key + twoB) % PRIME % buckets;
        }
    }

    /**
     * The map's settings, entries and tallies. The places of all buckets stand in one row, bucket
     * by bucket, the stash's from the index room on, and behind it one that is in hand.
     */
    private static final class Table {
        final Settings set = new Settings();
        final int room;
        final int hand;
        final int[] keys;
        final int[] values;
        final int[] born;
        final int[] moved;
        /** FIRST and SECOND of each key, kept so that a search needs no division. */
        final int[] firsts;
        final int[] seconds;
        /** How many entries each bucket has. */
        final int[] fill = new int[TRIED_BUCKETS];
        int stashed;
        int puts;
        int refused;
        int rehashed;
        int doubled;
        int read;
        int longest;

        Table(int places) {
            room = places < 1 ? 1 : places;
            hand = room + MOST_STASH;
            keys = new int[hand + 1];
            values = new int[hand + 1];
            born = new int[hand + 1];
            moved = new int[hand + 1];
            firsts = new int[hand + 1];
            seconds = new int[hand + 1];
            clear();
        }

        void begin(Settings settings) {
            set.copyFrom(settings);
            clear();
            puts = 0;
            refused = 0;
            rehashed = 0;
            doubled = 0;
            read = 0;
            longest = 0;
        }

        void clear() {
            Arrays.fill(keys, NONE);
            Arrays.fill(fill, 0);
            stashed = 0;
        }

        void copyFrom(Table other) {
            if (other.room != room) {
                return;
            }
            set.copyFrom(other.set);
            System.arraycopy(other.keys, 0, keys, 0, hand + 1);
            System.arraycopy(other.values, 0, values, 0, hand + 1);
            System.arraycopy(other.born, 0, born, 0, hand + 1);
            System.arraycopy(other.moved, 0, moved, 0, hand + 1);
            System.arraycopy(other.firsts, 0, firsts, 0, hand + 1);
            System.arraycopy(other.seconds, 0, seconds, 0, hand + 1);
            System.arraycopy(other.fill, 0, fill, 0, TRIED_BUCKETS);
            stashed = other.stashed;
            puts = other.puts;
            refused = other.refused;
            rehashed = other.rehashed;
            doubled = other.doubled;
            read = other.read;
            longest = other.longest;
        }

        /** All is as it was, but for the seed, which goes on. */
        void goBackTo(Table other) {
            int seed = set.draws.seed;
            copyFrom(other);
            set.draws.seed = seed;
        }

        int startOf(int bucket) {
            return bucket * set.slots;
        }

        int bucketOf(int i) {
            return set.slots < 1 ? 0 : i / set.slots;
        }

        /** The index of a place as callers name it, NONE if there is no such place. */
        int indexOf(int bucket, int place) {
            if (place < 0) {
                return NONE;
            }
            if (bucket == STASH_NUMBER) {
                return place < stashed ? room + place : NONE;
            }
            boolean there = bucket >= 0 && bucket < set.buckets && place < set.slots;
            return there ? startOf(bucket) + place : NONE;
        }

        int otherOf(int i, int bucket) {
            if (firsts[i] == seconds[i]) {
                return NONE;
            }
            return firsts[i] == bucket ? seconds[i] : firsts[i];
        }

        int locate(int key) {
            int i = indexIn(set.firstOf(key), key);
            if (i < 0) {
                i = indexIn(set.secondOf(key), key);
            }
            for (int j = room; i < 0 && j < room + stashed; j++) {
                if (keys[j] == key) {
                    i = j;
                }
            }
            return i;
        }

        private int indexIn(int bucket, int key) {
            int start = startOf(bucket);
            for (int i = start; i < start + set.slots; i++) {
                if (keys[i] == key) {
                    return i;
                }
            }
            return NONE;
        }

        /** READ of a key that is at an index, or of one that is not there (NONE). */
        int readsTill(int key, int i) {
            int first = set.firstOf(key);
            int both = first == set.secondOf(key) ? 1 : 2;
            if (i < 0) {
                return both + (stashed > 0 ? 1 : 0);
            }
            if (i >= room) {
                return both + 1;
            }
            return bucketOf(i) == first ? 1 : 2;
        }

        /** How many entries a look-up reads till it comes to the one at an index. */
        int entriesTill(int i) {
            int first = firsts[i];
            if (i < room && bucketOf(i) == first) {
                return entriesFrom(startOf(first), i);
            }
            int second = seconds[i];
            if (i < room) {
                return fill[first] + entriesFrom(startOf(second), i);
            }
            int before = first == second ? fill[first] : fill[first] + fill[second];
            return before + i - room + 1;
        }

        private int entriesFrom(int start, int last) {
            int many = 0;
            for (int i = start; i <= last; i++) {
                many += keys[i] >= 0 ? 1 : 0;
            }
            return many;
        }

        int entries() {
            return entriesFrom(0, hand - 1);
        }

        int movedInAll() {
            int sum = 0;
            for (int i = 0; i < hand; i++) {
                sum += keys[i] >= 0 ? moved[i] : 0;
            }
            return sum;
        }

        int movedMost() {
            int most = 0;
            for (int i = 0; i < hand; i++) {
                most = keys[i] >= 0 && moved[i] > most ? moved[i] : most;
            }
            return most;
        }

        int readsMost() {
            int most = 0;
            for (int i = 0; i < hand; i++) {
                int reads = keys[i] >= 0 ? readsTill(keys[i], i) : 0;
                most = reads > most ? reads : most;
            }
            return most;
        }

        void takeInHand(int key, int value, int bornAt, int movedTill) {
            keys[hand] = key;
            values[hand] = value;
            born[hand] = bornAt;
            moved[hand] = movedTill;
            firsts[hand] = set.firstOf(key);
            seconds[hand] = set.secondOf(key);
        }

        void emptyHand() {
            keys[hand] = NONE;
        }

        /** FIRST, else SECOND, of the entry at an index, if it has an empty place; else NONE. */
        int openBucketFor(int i) {
            if (fill[firsts[i]] < set.slots) {
                return firsts[i];
            }
            return fill[seconds[i]] < set.slots ? seconds[i] : NONE;
        }

        /** The least empty place of a bucket that has one. */
        int emptyPlaceIn(int bucket) {
            int i = bucket * set.slots;
            int last = i + set.slots - 1;
            while (i < last && keys[i] >= 0) {
                i++;
            }
            return i;
        }

        /** An entry goes to an empty place; how full the buckets are follows. */
        void move(int from, int to) {
            keys[to] = keys[from];
            values[to] = values[from];
            born[to] = born[from];
            moved[to] = moved[from];
            firsts[to] = firsts[from];
            seconds[to] = seconds[from];
            keys[from] = NONE;
            int slots = set.slots;
            if (slots > 0 && from < room) {
                fill[from / slots]--;
            }
            if (slots > 0 && to < room) {
                fill[to / slots]++;
            }
        }

        /** The entry in hand and the one at an index change places. */
        void swapHand(int i) {
            int key = keys[hand];
            int value = values[hand];
            int bornAt = born[hand];
            int movedTill = moved[hand];
            int first = firsts[hand];
            int second = seconds[hand];
            keys[hand] = keys[i];
            values[hand] = values[i];
            born[hand] = born[i];
            moved[hand] = moved[i];
            firsts[hand] = firsts[i];
            seconds[hand] = seconds[i];
            keys[i] = key;
            values[i] = value;
            born[i] = bornAt;
            moved[i] = movedTill;
            firsts[i] = first;
            seconds[i] = second;
        }

        /** Those in the stash behind a place from which one has gone come up. */
        void closeStash(int place) {
            for (int i = room + place; i < room + stashed - 1; i++) {
                move(i + 1, i);
            }
            stashed--;
        }
    }

    /** The search for the chain by which a key comes in. */
    private static final class Chain {
        /** The indexes of the chain's entries, and the bucket into which the last one goes. */
        final int[] path = new int[TRIED_BUCKETS];
        int length;
        int target;
        private final int[] line = new int[TRIED_BUCKETS];
        private final int[] reachedBy = new int[TRIED_BUCKETS];
        private final int[] reachedFrom = new int[TRIED_BUCKETS];
        private final boolean[] seen = new boolean[TRIED_BUCKETS];
        private int lined;

        /**
         * Goes bucket by bucket, those reached by fewer entries ahead, of these in the order of
         * places: so the first bucket with an empty place ends the chain that the document wants.
         * FIRST and SECOND are seen from the start, as if they had no empty place.
         */
        boolean seek(Table table, int first, int second) {
            begin(table.set.buckets, first, second);
            int slots = table.set.slots;
            for (int head = 0; head < lined && head < TRIED_BUCKETS; head++) {
                int bucket = line[head];
                int start = bucket * slots;
                for (int i = start; i < start + slots; i++) {
                    if (table.keys[i] < 0) {
                        continue;
                    }
                    int one = table.firsts[i];
                    int other = one == bucket ? table.seconds[i] : one;
                    if (seen[other]) {
                        continue;
                    }
                    seen[other] = true;
                    reachedBy[other] = i;
                    reachedFrom[other] = bucket;
                    if (table.fill[other] < slots) {
                        trace(other);
                        return true;
                    }
                    line[lined] = other;
                    lined++;
                }
            }
            return false;
        }

        private void begin(int buckets, int first, int second) {
            for (int b = 0; b < buckets && b < TRIED_BUCKETS; b++) {
                seen[b] = false;
            }
            length = 0;
            target = NONE;
            line[0] = first;
            lined = 1;
            seen[first] = true;
            reachedFrom[first] = NONE;
            if (second != first) {
                line[1] = second;
                lined = 2;
                seen[second] = true;
                reachedFrom[second] = NONE;
            }
        }

        private void trace(int end) {
            target = end;
            int bucket = end;
            for (int n = 0; n < TRIED_BUCKETS && reachedFrom[bucket] >= 0; n++) {
                bucket = reachedFrom[bucket];
                length++;
            }
            bucket = end;
            for (int k = length - 1; k >= 0; k--) {
                path[k] = reachedBy[bucket];
                bucket = reachedFrom[bucket];
            }
        }
    }

    /** How an entry comes into a table, and how the stash empties. */
    private static final class Mover {
        final Chain chain;
        private final int[] trail = new int[MOST_DEPTH];

        Mover(Chain search) {
            chain = search;
        }

        /** The one in hand comes in by (a) to (c): by which; 0 if by none, and it stays in hand. */
        int comeIn(Table table) {
            int hand = table.hand;
            Settings set = table.set;
            int open = table.openBucketFor(hand);
            if (open >= 0) {
                table.move(hand, table.emptyPlaceIn(open));
                return BY_PLACE;
            }
            if (set.kick == KICK_SHORTEST
                    && chain.seek(table, table.firsts[hand], table.seconds[hand])
                    && chain.length <= set.depth) {
                follow(table, hand);
                return BY_KICK;
            }
            if (set.kick == KICK_WALK && walk(table)) {
                return BY_KICK;
            }
            if (table.stashed < set.stash && table.stashed < MOST_STASH) {
                table.move(hand, table.room + table.stashed);
                table.stashed++;
                return BY_STASH;
            }
            return 0;
        }

        boolean seekFor(Table table, int i) {
            return chain.seek(table, table.firsts[i], table.seconds[i]);
        }

        /** The entry at an index, in hand or in the stash, comes in by the chain found for it. */
        void follow(Table table, int i) {
            if (chain.length < 1) {
                return;
            }
            int to = table.emptyPlaceIn(chain.target);
            for (int k = chain.length - 1; k >= 0; k--) {
                int from = chain.path[k];
                table.moved[from]++;
                table.move(from, to);
                to = from;
            }
            table.move(i, to);
            table.longest = Math.max(table.longest, chain.length);
        }

        private boolean walk(Table table) {
            int slots = table.set.slots;
            int steps = Math.min(table.set.depth, MOST_DEPTH);
            int bucket = table.firsts[table.hand];
            for (int n = 0; n < steps; n++) {
                int i = bucket * slots + table.set.draws.below(slots);
                table.moved[i]++;
                table.swapHand(i);
                trail[n] = i;
                int first = table.firsts[table.hand];
                bucket = first == bucket ? table.seconds[table.hand] : first;
                if (table.fill[bucket] < slots) {
                    table.move(table.hand, table.emptyPlaceIn(bucket));
                    return true;
                }
            }
            for (int n = steps - 1; n >= 0; n--) {
                table.swapHand(trail[n]);
                table.moved[trail[n]]--;
            }
            return false;
        }

        /** Those of the stash that can, by chains too if told, leave it in order: how many did. */
        int emptyStash(Table table, boolean byChains) {
            int left = 0;
            int stay = 0;
            int many = table.stashed;
            for (int n = 0; n < many; n++) {
                if (leaveStash(table, table.room + stay, byChains)) {
                    table.closeStash(stay);
                    left++;
                } else {
                    stay++;
                }
            }
            return left;
        }

        private boolean leaveStash(Table table, int i, boolean byChains) {
            int open = table.openBucketFor(i);
            if (open >= 0) {
                table.moved[i]++;
                table.move(i, table.emptyPlaceIn(open));
                return true;
            }
            if (byChains && seekFor(table, i) && chain.length <= table.set.depth) {
                table.moved[i]++;
                follow(table, i);
                return true;
            }
            return false;
        }
    }

    /** Puts, drops, and all that lays the entries anew. */
    private static final class Keeper {
        private final Mover mover;
        private final Roster roster;
        /** What a table was before its entries were laid anew. */
        private final Table before = new Table(MAP_ROOM);
        private final Draws loads = new Draws();

        Keeper(Mover move, Roster order) {
            mover = move;
            roster = order;
        }

        /** PUT: 0 to 5, NONE if it is refused. */
        int enter(Table table, int key, int value) {
            table.puts++;
            int i = table.locate(key);
            if (i >= 0) {
                table.values[i] = value;
                return OLD;
            }
            table.takeInHand(key, value, table.puts, 0);
            int how = mover.comeIn(table);
            if (how > 0) {
                return how;
            }
            int full = table.set.full;
            if (full == FULL_TEST && mover.seekFor(table, table.hand)) {
                mover.follow(table, table.hand);
                return BY_KICK;
            }
            if (full == FULL_GROW && grow(table)) {
                return BY_GROWTH;
            }
            if ((full == FULL_REHASH || full == FULL_TEST) && redraw(table)) {
                return BY_REHASH;
            }
            table.emptyHand();
            table.refused++;
            return NONE;
        }

        private boolean redraw(Table table) {
            before.copyFrom(table);
            for (int n = 0; n < before.set.tries; n++) {
                table.set.drawHashes();
                if (layAnew(table)) {
                    table.rehashed++;
                    return true;
                }
                table.goBackTo(before);
            }
            return false;
        }

        private boolean grow(Table table) {
            before.copyFrom(table);
            for (int times = 1; times <= 4; times++) {
                int buckets = before.set.buckets << times;
                if (buckets > MOST_BUCKETS) {
                    return false;
                }
                table.set.buckets = buckets;
                if (layAnew(table)) {
                    table.doubled += times;
                    return true;
                }
                table.goBackTo(before);
            }
            return false;
        }

        boolean rehashBy(Table table, int a, int b, int c, int d) {
            before.copyFrom(table);
            table.set.takeHashes(a, b, c, d);
            if (layAnew(table)) {
                table.rehashed++;
                return true;
            }
            table.goBackTo(before);
            return false;
        }

        /** All entries that there were before, then the one that was in hand, come in. */
        private boolean layAnew(Table table) {
            table.clear();
            for (int i = 0; i <= before.hand; i++) {
                if (before.keys[i] >= 0) {
                    takeOver(table, i);
                    if (mover.comeIn(table) == 0) {
                        return false;
                    }
                }
            }
            return true;
        }

        private void takeOver(Table table, int i) {
            table.takeInHand(before.keys[i], before.values[i], before.born[i], before.moved[i]);
        }

        boolean layBatch(Table table) {
            before.copyFrom(table);
            roster.peelOff(before);
            table.clear();
            for (int k = 0; k < roster.peeled; k++) {
                takeOver(table, roster.peels[k]);
                table.move(table.hand, table.emptyPlaceIn(roster.homes[k]));
            }
            for (int k = 0; k < roster.all; k++) {
                if (!roster.gone[k]) {
                    takeOver(table, roster.order[k]);
                    if (mover.comeIn(table) == 0) {
                        table.goBackTo(before);
                        return false;
                    }
                }
            }
            return true;
        }

        int remove(Table table, int key) {
            int i = table.locate(key);
            if (i < 0) {
                return NONE;
            }
            int value = table.values[i];
            table.move(i, table.hand);
            table.emptyHand();
            if (i >= table.room) {
                table.closeStash(i - table.room);
            }
            mover.emptyStash(table, false);
            return value;
        }

        /** LOAD: how many puts were refused. */
        int loadBy(Table table, int seed, int n) {
            int refused = table.refused;
            loads.seed = seed;
            for (int k = 0; k < n; k++) {
                int act = loads.below(4);
                int key = loads.below(NUMBERS);
                if (act == 0) {
                    remove(table, key);
                } else {
                    enter(table, key, loads.below(NUMBERS));
                }
            }
            return table.refused - refused;
        }
    }

    /** The entries in order, by keys or by birth, and those of them that are peeled. */
    private static final class Roster {
        /** Indexes of the entries in a table. */
        final int[] order = new int[MOST_ENTRIES];
        int all;
        /** Whether the k-th of that order is peeled. */
        final boolean[] gone = new boolean[MOST_ENTRIES];
        /** Indexes of the peeled ones as they were peeled, and the buckets to which they belong. */
        final int[] peels = new int[MOST_ENTRIES];
        final int[] homes = new int[MOST_ENTRIES];
        int peeled;
        private final int[] degrees = new int[TRIED_BUCKETS];

        void gather(Table table, boolean byBirth) {
            int[] ranks = byBirth ? table.born : table.keys;
            all = 0;
            for (int i = 0; i < table.hand && all < MOST_ENTRIES; i++) {
                if (table.keys[i] >= 0) {
                    int k = all;
                    while (k > 0 && ranks[order[k - 1]] > ranks[i]) {
                        order[k] = order[k - 1];
                        k--;
                    }
                    order[k] = i;
                    all++;
                }
            }
        }

        void peelOff(Table table) {
            gather(table, false);
            Arrays.fill(degrees, 0);
            peeled = 0;
            for (int k = 0; k < all; k++) {
                gone[k] = false;
                addDegrees(table, order[k], 1);
            }
            int buckets = table.set.buckets;
            for (int n = 0; n < buckets; n++) {
                int b = leastOpen(buckets, table.set.slots);
                if (b < 0) {
                    return;
                }
                peelBucket(table, b);
            }
        }

        private void addDegrees(Table table, int i, int many) {
            int first = table.firsts[i];
            int second = table.seconds[i];
            degrees[first] += many;
            if (second != first) {
                degrees[second] += many;
            }
        }

        private int leastOpen(int buckets, int slots) {
            for (int b = 0; b < buckets; b++) {
                if (degrees[b] > 0 && degrees[b] <= slots) {
                    return b;
                }
            }
            return NONE;
        }

        private void peelBucket(Table table, int bucket) {
            for (int k = 0; k < all; k++) {
                int i = order[k];
                boolean there = table.firsts[i] == bucket || table.seconds[i] == bucket;
                if (there && !gone[k]) {
                    gone[k] = true;
                    addDegrees(table, i, -1);
                    peels[peeled] = i;
                    homes[peeled] = bucket;
                    peeled++;
                }
            }
        }
    }

    /** What hangs together: each bucket bears the label of its part, one of the part's buckets. */
    private static final class Parts {
        final int[] labels = new int[TRIED_BUCKETS];
        final int[] members = new int[TRIED_BUCKETS];
        final int[] sizes = new int[TRIED_BUCKETS];

        /** Finds the parts: how many there are. */
        int join(Table table) {
            int buckets = table.set.buckets;
            for (int b = 0; b < TRIED_BUCKETS; b++) {
                labels[b] = b;
                members[b] = 0;
                sizes[b] = b < buckets ? 1 : 0;
            }
            int many = buckets;
            for (int i = 0; i < table.hand; i++) {
                if (table.keys[i] >= 0) {
                    many -= unite(labels[table.firsts[i]], labels[table.seconds[i]], buckets);
                    members[labels[table.firsts[i]]]++;
                }
            }
            return many;
        }

        private int unite(int one, int two, int buckets) {
            if (one == two) {
                return 0;
            }
            for (int b = 0; b < buckets; b++) {
                if (labels[b] == two) {
                    labels[b] = one;
                }
            }
            members[one] += members[two];
            sizes[one] += sizes[two];
            members[two] = 0;
            sizes[two] = 0;
            return 1;
        }

        int bits(int label) {
            int bits = 0;
            for (int b = 0; b < MOST_BUCKETS; b++) {
                bits |= labels[b] == label ? 1 << b : 0;
            }
            return bits;
        }

        int entriesIn(Table table, int label) {
            int many = 0;
            for (int b = 0; b < table.set.buckets; b++) {
                many += labels[b] == label ? table.fill[b] : 0;
            }
            return many;
        }

        /** 0 for a tree, 1 for a ring, 2 for a tangled one. */
        int kindOf(int label) {
            if (members[label] < sizes[label]) {
                return 0;
            }
            return members[label] == sizes[label] ? 1 : 2;
        }

        int tangled(int buckets) {
            int many = 0;
            for (int b = 0; b < buckets; b++) {
                many += labels[b] == b && kindOf(b) == 2 ? 1 : 0;
            }
            return many;
        }
    }

    /**
     * Whether entries could be arranged: they are laid into a trial table by chains of any length.
     * One that no chain helps could never come in, whatever follows: so those left out are fewest.
     */
    private static final class Arranger {
        private final Mover mover;
        private final Table trial = new Table(TRIAL_ROOM);

        Arranger(Mover move) {
            mover = move;
        }

        void takeSettings(Table table) {
            trial.set.copyFrom(table.set);
        }

        boolean allFit(Table table, int further) {
            return leftOut(table, further, 1) == 0;
        }

        /** How many of a table's keys and a further one (or NONE) can't be, counted till enough. */
        int leftOut(Table table, int further, int enough) {
            trial.clear();
            int left = further >= 0 ? layKey(further) : 0;
            for (int i = 0; i < table.hand && left < enough; i++) {
                left += table.keys[i] >= 0 ? layKey(table.keys[i]) : 0;
            }
            return left;
        }

        private int layKey(int key) {
            trial.takeInHand(key, 0, 0, 0);
            int open = trial.openBucketFor(trial.hand);
            if (open >= 0) {
                trial.move(trial.hand, trial.emptyPlaceIn(open));
                return 0;
            }
            if (mover.seekFor(trial, trial.hand)) {
                mover.follow(trial, trial.hand);
                return 0;
            }
            trial.emptyHand();
            return 1;
        }

        /** The least number by which all fit: 0 of buckets, 1 of slots, 2 as a seed of hashes. */
        int leastOf(Table table, int what) {
            takeSettings(table);
            int most = mostOf(what);
            for (int n = 1; n <= most; n++) {
                change(what, n);
                if (allFit(table, NONE)) {
                    return n;
                }
            }
            return NONE;
        }

        private static int mostOf(int what) {
            switch (what) {
                case 0:
                    return TRIED_BUCKETS;
                case 1:
                    return TRIED_SLOTS;
                case 2:
                    return TRIED_SEEDS;
                default:
                    return 0;
            }
        }

        private void change(int what, int n) {
            if (what == 0) {
                trial.set.buckets = n;
            } else if (what == 1) {
                trial.set.slots = n;
            } else {
                trial.set.draws.seed = n;
                trial.set.drawHashes();
            }
        }
    }

    /** All that is and that an image has. */
    private static final class World {
        final Table table = new Table(MAP_ROOM);
        final byte[] tape = new byte[MOST_BYTES];
        int length;
        int fault;
        int faultPlace = NONE;

        void append(int number) {
            for (int shift = 24; shift >= 0 && length < MOST_BYTES; shift -= 8) {
                tape[length] = (byte) (number >> shift);
                length++;
            }
        }

        void copyFrom(World other) {
            table.copyFrom(other.table);
            System.arraycopy(other.tape, 0, tape, 0, MOST_BYTES);
            length = other.length;
            fault = other.fault;
            faultPlace = other.faultPlace;
        }
    }

    /** Reads a tape as a text: its settings, what it has, or its fault. */
    private static final class Reader {
        private static final int AT_END = 0;
        private static final int WORD = 1;
        private static final int NUMBER = 2;
        private static final int SEMICOLON = 3;
        private static final int NO_TOKEN = 4;

        /** The words that begin a line, in the order of the numbers below; a blank ends each. */
        private static final String LINES =
                "buckets slots stash depth tries seed kick full one two has ";
        private static final String KICKS = "none walk shortest ";
        private static final String FULLS = "refuse rehash grow test ";
        private static final int SEED_LINE = 5;
        private static final int KICK_LINE = 6;
        private static final int FULL_LINE = 7;
        private static final int ONE_LINE = 8;
        private static final int TWO_LINE = 9;
        /** What the numbers of the first six lines may be. */
        private static final int[] LEAST = {1, 1, 0, 0, 0, 0};
        private static final int[] MOST = {16, 4, 4, 16, 4, 9999};

        int fault;
        int faultPlace;
        private final Settings told = new Settings();
        private final int[] hasKeys = new int[MOST_BYTES / 7 + 1];
        private final int[] hasValues = new int[MOST_BYTES / 7 + 1];
        private final int[] hasPlaces = new int[MOST_BYTES / 7 + 1];
        private int has;
        private final byte[] bytes;
        private int length;
        private int next;
        /** The token that is looked at: its kind, its bytes from start till next, its number. */
        private int kind;
        private int start;
        private int number;
        private int taken;

        Reader(byte[] tape) {
            bytes = tape;
        }

        /** Takes settings and entries from the first bytes: false if there is a fault of 1 to 3. */
        boolean read(int many) {
            length = Math.min(many, bytes.length);
            fault = 0;
            faultPlace = NONE;
            has = 0;
            told.begin();
            next = 0;
            step();
            boolean well = true;
            for (int lines = 0; lines <= length && well && kind != AT_END; lines++) {
                well = readLine();
            }
            return fault == 0;
        }

        /** All that the text has is put into a table: false if one is refused. */
        boolean enterAll(Table table, Keeper keeper) {
            table.begin(told);
            for (int k = 0; k < has; k++) {
                if (keeper.enter(table, hasKeys[k], hasValues[k]) < 0) {
                    fault = 4;
                    faultPlace = hasPlaces[k];
                    return false;
                }
            }
            return true;
        }

        private boolean readLine() {
            int line = kind == WORD ? wordOf(LINES) : NONE;
            if (line < 0) {
                return stop();
            }
            step();
            boolean well;
            if (line <= SEED_LINE) {
                well = readSetting(line);
            } else if (line <= FULL_LINE) {
                well = readChoice(line);
            } else if (line <= TWO_LINE) {
                well = readHash(line);
            } else {
                well = readHas();
            }
            if (!well || kind != SEMICOLON) {
                return well && stop();
            }
            step();
            return true;
        }

        private boolean readSetting(int line) {
            if (!readNumber(LEAST[line], MOST[line])) {
                return false;
            }
            switch (line) {
                case 0:
                    told.buckets = taken;
                    break;
                case 1:
                    told.slots = taken;
                    break;
                case 2:
                    told.stash = taken;
                    break;
                case 3:
                    told.depth = taken;
                    break;
                case 4:
                    told.tries = taken;
                    break;
                default:
                    told.draws.seed = taken;
                    break;
            }
            return true;
        }

        private boolean readChoice(int line) {
            int choice = kind == WORD ? wordOf(line == KICK_LINE ? KICKS : FULLS) : NONE;
            if (choice < 0) {
                return stop();
            }
            if (line == KICK_LINE) {
                told.kick = choice;
            } else {
                told.full = choice;
            }
            step();
            return true;
        }

        private boolean readHash(int line) {
            if (!readNumber(1, PRIME - 1)) {
                return false;
            }
            int a = taken;
            if (!readNumber(0, PRIME - 1)) {
                return false;
            }
            if (line == ONE_LINE) {
                told.takeHashes(a, taken, told.twoA, told.twoB);
            } else {
                told.takeHashes(told.oneA, told.oneB, a, taken);
            }
            return true;
        }

        private boolean readHas() {
            int place = start;
            if (!readNumber(0, NUMBERS - 1)) {
                return false;
            }
            int key = taken;
            for (int k = 0; k < has; k++) {
                if (hasKeys[k] == key) {
                    note(3, place);
                }
            }
            if (!readNumber(0, NUMBERS - 1)) {
                return false;
            }
            if (has < hasKeys.length) {
                hasKeys[has] = key;
                hasValues[has] = taken;
                hasPlaces[has] = place;
                has++;
            }
            return true;
        }

        /** A number must stand here, and is taken; one that can't be is noted. */
        private boolean readNumber(int least, int most) {
            if (kind != NUMBER) {
                return stop();
            }
            taken = number;
            if (taken < least || taken > most) {
                note(2, start);
            }
            step();
            return true;
        }

        /** The first fault by place stays, unless the text stops going on later. */
        private void note(int which, int place) {
            if (fault == 0) {
                fault = which;
                faultPlace = place;
            }
        }

        private boolean stop() {
            fault = 1;
            faultPlace = start;
            return false;
        }

        /** Goes to the next token. */
        private void step() {
            while (next < length && (bytes[next] == 10 || bytes[next] == ' ')) {
                next++;
            }
            start = next;
            if (next >= length) {
                kind = AT_END;
            } else if (bytes[next] == ';') {
                kind = SEMICOLON;
                next++;
            } else if (isDigit(bytes[next])) {
                stepOverDigits();
            } else {
                while (next < length && bytes[next] >= 'a' && bytes[next] <= 'z') {
                    next++;
                }
                kind = next > start ? WORD : NO_TOKEN;
            }
        }

        private void stepOverDigits() {
            int value = 0;
            while (next < length && isDigit(bytes[next])) {
                value = next - start < 4 ? 10 * value + bytes[next] - '0' : value;
                next++;
            }
            number = value;
            kind = next - start <= 4 ? NUMBER : NO_TOKEN;
        }

        private static boolean isDigit(int c) {
            return c >= '0' && c <= '9';
        }

        /** Which word of a list the token is, NONE if it is none. */
        private int wordOf(String list) {
            int word = 0;
            int i = start;
            boolean same = true;
            for (int j = 0; j < list.length(); j++) {
                if (list.charAt(j) == ' ') {
                    if (same && i == next) {
                        return word;
                    }
                    word++;
                    i = start;
                    same = true;
                } else {
                    same = same && i < next && bytes[i] == list.charAt(j);
                    i++;
                }
            }
            return NONE;
        }
    }
}
