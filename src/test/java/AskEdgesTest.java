/** Terms 3 and promises 7 and 14 to 31: each sentence that names an edge of what is asked, by itself. */
public final class AskEdgesTest {
    private static final int NONE = TwoChoices.NONE;
    private static final int LEAST = Integer.MIN_VALUE;
    private static final int MOST = Integer.MAX_VALUE;

    /** Numbers that are no KEY. */
    private static final int[] NO_KEYS = {-1, 1000, -2, LEAST, MOST};

    /** FIRST and SECOND are both the key modulo the buckets. */
    private static final String SAME = "one 1 0;two 1 0;";

    private final Checks checks = new Checks();

    public static void main(String[] args) {
        AskEdgesTest test = new AskEdgesTest();
        test.entriesAndPlaces();
        test.chainsAndPuts();
        test.partsAndArranging();
        test.countsAndOrders();
        test.imagesAndTries();
        test.checks.end();
    }

    private void entriesAndPlaces() {
        newObject();
        getOfNone();
        findOfNone();
        findAnotherWhat();
        findAtTheEdges();
        findReadsEntries();
        atNoneSuch();
        atEveryPlace();
        atNoOther();
        hashOfNoKey();
    }

    private void chainsAndPuts() {
        chainNone();
        chainAsIfFull();
        chainWhateverDepthAndKick();
        chainOneAfterAnother();
        wouldEach();
        wouldNoKey();
        wouldChangesNothing();
    }

    private void partsAndArranging() {
        partAlone();
        partTreeRingTangled();
        partOfAll();
        partWithStash();
        partNoneSuch();
        fitsTillFull();
        fitsNoKey();
        overCounts();
        overOfNone();
        leastOfNone();
        leastBuckets();
        leastSlots();
        leastSeed();
        leastAnotherWhat();
    }

    private void countsAndOrders() {
        keyNotSoMany();
        keyByBorn();
        countAnotherWhat();
        countOfNone();
        countPlaces();
        countMoved();
        countRead();
        countTangledAlone();
        filledEach();
        filledNoSuchNumber();
        restlessNone();
        restlessLeastKey();
        whichEach();
        whichBelow100();
        whichAnother();
    }

    private void imagesAndTries() {
        triedN();
        triedWhat();
        triedNothingStays();
        lostNoneSuch();
        lostSameKeyAndValue();
        imageOfThree();
        againNoneSuch();
        againAllThatIs();
        againOfAFullStash();
        againKeepsImages();
    }

    private void due(String call, long got, long want) {
        checks.due(call, got, want);
    }

    private void due(String call, boolean got, boolean want) {
        checks.due(call, got, want);
    }

    private void same(String call, String got, String want) {
        checks.due(call + ": " + got + ", due " + want, got.equals(want), true);
    }

    /** 16 times 4 places, all full, and 4 in the stash. */
    private static TwoChoices full() {
        TwoChoices map = Tapes.mapOf("buckets 16;slots 4;stash 4;kick none;seed 8;" + SAME);
        for (int key = 0; key < 68; key++) {
            map.put(key, 900 + key % 64);
        }
        return map;
    }

    // Promise 1: "An empty map, all SETTINGS as at first; no images."
    private void newObject() {
        TwoChoices map = new TwoChoices();
        due("1: an empty map", map.count(0), 0);
        due("1: an empty stash", map.count(4), 0);
        int[] settings = {4, 2, 2, 0, 8, 6, 2, 2, 0, 3, 1, 5, 2};
        for (int what = 1; what <= 13; what++) {
            due("1: count(" + what + ")", map.count(what), settings[what - 1]);
        }
        due("1: the SEED", map.count(25), 0);
        due("1: the tape", map.count(26), 0);
        for (int k = 0; k < 3; k++) {
            due("1: no image " + k, map.again(k), false);
            due("1: nothing lost of " + k, map.lost(k), NONE);
        }
        map.put(1, 1);
        due("1: another object is empty all the same", new TwoChoices().count(0), 0);
    }

    // Promise 7: "(READ is counted, also if there is none)"; "NONE: there is no ENTRY, no such KEY (not counted)"
    private void getOfNone() {
        TwoChoices map = Tapes.mapOf("buckets 2;slots 1;stash 1;" + SAME + "has 0 7;");
        due("7: no ENTRY", map.get(1), NONE);
        due("7: READ is counted", map.count(20), 1);
        for (int key : NO_KEYS) {
            due("7: get(" + key + ")", map.get(key), NONE);
        }
        due("7: not counted", map.count(20), 1);
        due("7: an ENTRY", map.get(0), 7);
        due("7: READ is counted", map.count(20), 2);
        map.put(2, 0);
        due("7: the VALUE 0", map.get(2), 0);
        due("7: of the STASH", map.count(20), 4);
        map.find(2, 2);
        map.would(2);
        map.put(2, 1);
        due("7: by get() alone", map.count(20), 4);
        due("7: of an empty map", new TwoChoices().get(999), NONE);
    }

    // Promise 14: "NONE: there is no ENTRY, no such KEY"
    private void findOfNone() {
        TwoChoices[] maps = {new TwoChoices(), full()};
        for (TwoChoices map : maps) {
            for (int what = -1; what <= 6; what++) {
                due("14: find(999, " + what + ")", map.find(999, what), NONE);
                for (int key : NO_KEYS) {
                    due("14: find(" + key + ", " + what + ")", map.find(key, what), NONE);
                }
            }
        }
    }

    // Promise 14: "another what"
    private void findAnotherWhat() {
        TwoChoices map = full();
        int[] keys = {0, 63, 64, 67};
        int[] wrong = {-1, 6, LEAST, MOST};
        for (int key : keys) {
            for (int what : wrong) {
                due("14: find(" + key + ", " + what + ")", map.find(key, what), NONE);
            }
        }
    }

    // Promise 14: "what 0: its BUCKET (100: the STASH), 1: its place", "2: READ, 3: BORN, 4: MOVED"
    private void findAtTheEdges() {
        TwoChoices map = full();
        for (int key = 0; key < 68; key++) {
            boolean stashed = key >= 64;
            due("14: the BUCKET of " + key, map.find(key, 0), stashed ? 100 : key % 16);
            due("14: the place of " + key, map.find(key, 1), stashed ? key - 64 : key / 16);
            due("14: READ of " + key, map.find(key, 2), stashed ? 2 : 1);
            due("14: BORN of " + key, map.find(key, 3), key + 1);
            due("14: MOVED of " + key, map.find(key, 4), 0);
            due("14: ENTRIES till " + key, map.find(key, 5), stashed ? 4 + key - 63 : key / 16 + 1);
        }
    }

    // Promise 14: "5: how many ENTRIES it would read till it is found (place by place)": empty places are none
    private void findReadsEntries() {
        Pairs pairs = new Pairs(3);
        TwoChoices map = Tapes.mapOf("buckets 3;slots 2;stash 2;kick none;" + Pairs.TEXT);
        int[] first = {pairs.key(0, 0), pairs.key(0, 0)};
        int[] second = {pairs.key(0, 1), pairs.key(0, 1)};
        int[] stash = {pairs.key(0, 1), pairs.key(0, 0)};
        for (int[] keys : new int[][] {first, second, stash}) {
            map.put(keys[0], 0);
            map.put(keys[1], 0);
        }
        int[] all = {first[0], first[1], second[0], second[1], stash[0], stash[1]};
        // The last one's buckets are the same: it is looked for in one of them alone.
        int[] dues = {1, 2, 3, 4, 5, 4};
        for (int k = 0; k < 6; k++) {
            due("14: find(" + all[k] + ", 5)", map.find(all[k], 5), dues[k]);
        }
        map.drop(stash[0]);
        map.drop(stash[1]);
        map.drop(second[0]);
        due("14: an empty place of SECOND", map.find(second[1], 5), 3);
        map.drop(first[0]);
        due("14: and of FIRST", map.find(second[1], 5), 2);
        due("14: of FIRST alone", map.find(first[1], 5), 1);
        findReadsNoOtherBuckets();
    }

    /** Those in BUCKETS between FIRST and SECOND are not read, nor if SECOND is ahead of FIRST. */
    private void findReadsNoOtherBuckets() {
        Pairs pairs = new Pairs(3);
        TwoChoices map = Tapes.mapOf("buckets 3;slots 1;stash 0;kick none;" + Pairs.TEXT);
        map.put(pairs.key(0, 0), 0);
        int between = pairs.key(1, 1);
        map.put(between, 0);
        int key = pairs.key(0, 2);
        map.put(key, 0);
        due("14: of FIRST 0 and SECOND 2", map.find(key, 5), 2);
        due("14: of FIRST alone", map.find(between, 5), 1);
        map = Tapes.mapOf("buckets 3;slots 1;stash 0;kick none;" + Pairs.TEXT);
        map.put(pairs.key(2, 2), 0);
        map.put(pairs.key(1, 1), 0);
        key = pairs.key(2, 0);
        map.put(key, 0);
        due("14: of FIRST 2 and SECOND 0", map.find(key, 5), 2);
    }

    // Promise 15: "NONE: there is none such, another what"
    private void atNoneSuch() {
        TwoChoices map = full();
        int[] buckets = {-1, 16, 99, 101, LEAST, MOST};
        int[] places = {-1, 4, LEAST, MOST};
        int[] whats = {-1, 5, LEAST, MOST};
        for (int what = 0; what < 5; what++) {
            for (int bucket : buckets) {
                due("15: at(" + bucket + ", 0, " + what + ")", map.at(bucket, 0, what), NONE);
            }
            for (int place : places) {
                due("15: at(0, " + place + ", " + what + ")", map.at(0, place, what), NONE);
                due("15: at(15, " + place + ", " + what + ")", map.at(15, place, what), NONE);
                due("15: at(100, " + place + ", " + what + ")", map.at(100, place, what), NONE);
            }
        }
        for (int what : whats) {
            due("15: at(0, 0, " + what + ")", map.at(0, 0, what), NONE);
            due("15: at(100, 3, " + what + ")", map.at(100, 3, what), NONE);
        }
        map = Tapes.mapOf("buckets 3;slots 2;stash 4;" + SAME + "has 0 0;has 3 0;has 6 0;");
        due("15: one bucket too many", map.at(3, 0, 0), NONE);
        due("15: one place too many is not the next bucket's", map.at(0, 2, 0), NONE);
        due("15: an empty place", map.at(1, 0, 0), NONE);
        due("15: the last of the STASH", map.at(100, 0, 0), 6);
        due("15: the STASH could have more", map.at(100, 1, 0), NONE);
        map.drop(6);
        due("15: an empty STASH", map.at(100, 0, 0), NONE);
        map.drop(0);
        due("15: a place that is empty again", map.at(0, 0, 1), NONE);
        due("15: the place behind it", map.at(0, 1, 0), 3);
        map.drop(3);
        for (int what = 0; what < 5; what++) {
            due("15: nothing is left", map.at(0, 1, what), NONE);
        }
    }

    // Promise 15: "what 0: KEY, 1: VALUE, 2: BORN, 3: MOVED, 4: the other BUCKET", in every place there may be
    private void atEveryPlace() {
        TwoChoices map = full();
        for (int key = 0; key < 68; key++) {
            int bucket = key < 64 ? key % 16 : 100;
            int place = key < 64 ? key / 16 : key - 64;
            int[] dues = {key, 900 + key % 64, key + 1, 0, NONE};
            for (int what = 0; what < 5; what++) {
                due("15: at(" + bucket + ", " + place + ", " + what + ")", map.at(bucket, place, what), dues[what]);
            }
        }
    }

    // Promise 15: "(of one in the STASH: SECOND; NONE: there is no other)"
    private void atNoOther() {
        Pairs pairs = new Pairs(3);
        TwoChoices map = Tapes.mapOf("buckets 3;slots 1;stash 4;kick none;" + Pairs.TEXT);
        map.put(pairs.key(2, 1), 0);
        map.put(pairs.key(2, 1), 0);
        map.put(pairs.key(0, 0), 0);
        map.put(pairs.key(2, 1), 0);
        map.put(pairs.key(1, 2), 0);
        map.put(pairs.key(2, 2), 0);
        due("15: of one in FIRST: SECOND", map.at(2, 0, 4), 1);
        due("15: of one in SECOND: FIRST", map.at(1, 0, 4), 2);
        due("15: of one that has no other", map.at(0, 0, 4), NONE);
        due("15: of one in the STASH: SECOND", map.at(100, 0, 4), 1);
        due("15: of the next one: SECOND", map.at(100, 1, 4), 2);
        due("15: of one in the STASH that has no other", map.at(100, 2, 4), NONE);
    }

    // Promise 16: "NONE: no such KEY"
    private void hashOfNoKey() {
        TwoChoices map = Tapes.mapOf("buckets 16;one 1 0;two 1 5;");
        for (int key : NO_KEYS) {
            due("16: hash(" + key + ", false)", map.hash(key, false), NONE);
            due("16: hash(" + key + ", true)", map.hash(key, true), NONE);
        }
        due("16: FIRST of 0", map.hash(0, false), 0);
        due("16: SECOND of 0", map.hash(0, true), 5);
        due("16: FIRST of 999", map.hash(999, false), 999 % 16);
        due("16: SECOND of 999", map.hash(999, true), 1004 % 16);
    }

    // Promise 17: "-2: there is none, not so many, no such KEY"
    private void chainNone() {
        TwoChoices map = Tapes.mapOf("buckets 3;slots 1;stash 0;one 1 0;two 1 1;has 0 0;has 1 1;");
        int[] wrong = {1, -2, LEAST, MOST};
        due("17: how many", map.chain(3, NONE), 1);
        due("17: the first", map.chain(3, 0), 10);
        for (int k : wrong) {
            due("17: chain(3, " + k + ")", map.chain(3, k), -2);
        }
        for (int key : NO_KEYS) {
            due("17: chain(" + key + ", NONE)", map.chain(key, NONE), -2);
            due("17: chain(" + key + ", 0)", map.chain(key, 0), -2);
        }
        map.put(2, 2);
        due("17: there is none", map.chain(3, NONE), -2);
        due("17: nor a first", map.chain(3, 0), -2);
        due("17: of an empty map", new TwoChoices().chain(0, NONE), -2);
    }

    // Promise 17: "as if there were no empty place in FIRST, SECOND"
    private void chainAsIfFull() {
        Pairs pairs = new Pairs(4);
        TwoChoices map = Tapes.mapOf("buckets 4;slots 2;stash 0;" + Pairs.TEXT);
        map.put(pairs.key(0, 2), 0);
        int key = pairs.key(0, 1);
        due("17: that in FIRST, beside an empty place", map.chain(key, NONE), 1);
        due("17: its place", map.chain(key, 0), 0);
        due("6: put() takes the empty place", map.put(key, 0), 1);
        due("17: of one that is there", map.chain(key, NONE), 1);
        map = Tapes.mapOf("buckets 4;slots 2;stash 0;" + Pairs.TEXT);
        map.put(pairs.key(0, 1), 0);
        due("17: SECOND is no end", map.chain(pairs.key(0, 1), NONE), -2);
        due("17: FIRST is no end", map.chain(pairs.key(1, 0), NONE), -2);
        due("17: but of one of FIRST alone it is", map.chain(pairs.key(0, 0), NONE), 1);
    }

    // Promise 17: "whatever DEPTH, KICK are"; "10 times the BUCKET and the place of its k-th"
    private void chainWhateverDepthAndKick() {
        String[] kicks = {"none", "walk", "shortest"};
        for (String kick : kicks) {
            Pairs pairs = new Pairs(16);
            TwoChoices map = Tapes.mapOf("buckets 16;slots 1;stash 0;depth 0;seed 5;kick " + kick + ";" + Pairs.TEXT);
            for (int b = 15; b > 0; b--) {
                map.put(pairs.key(b, b - 1), 0);
            }
            int key = pairs.key(15, 15);
            String before = Seen.all(map);
            due("17: fifteen", map.chain(key, NONE), 15);
            for (int k = 0; k < 15; k++) {
                due("17: the " + k + "-th", map.chain(key, k), 10 * (15 - k));
            }
            due("17: no further one", map.chain(key, 15), -2);
            same("17: nothing changes", Seen.all(map), before);
        }
        Pairs pairs = new Pairs(16);
        TwoChoices map = Tapes.mapOf("buckets 16;slots 4;stash 0;" + Pairs.TEXT);
        map.put(pairs.key(15, 15), 0);
        map.put(pairs.key(15, 15), 0);
        map.put(pairs.key(15, 15), 0);
        map.put(pairs.key(15, 3), 0);
        due("17: the last place of the last bucket", map.chain(pairs.key(15, 2), 0), 153);
    }

    // Promise 17: a CHAIN starts from FIRST and SECOND of the KEY asked for, not from those asked for before
    private void chainOneAfterAnother() {
        Pairs pairs = new Pairs(4);
        TwoChoices map = Tapes.mapOf("buckets 4;slots 1;stash 0;" + Pairs.TEXT);
        map.put(pairs.key(0, 0), 0);
        map.put(pairs.key(1, 2), 0);
        map.put(pairs.key(3, 3), 0);
        due("17: by SECOND", map.chain(pairs.key(0, 1), NONE), 1);
        due("17: FIRST and SECOND are the same", map.chain(pairs.key(0, 0), NONE), -2);
        due("17: by FIRST", map.chain(pairs.key(1, 0), 0), 10);
        due("17: by neither", map.chain(pairs.key(0, 3), NONE), -2);
    }

    // Promise 18: "What put() would answer (-1: REFUSED)": each answer there is
    private void wouldEach() {
        TwoChoices map = Tapes.mapOf("buckets 2;slots 1;stash 1;" + SAME + "has 0 0;");
        due("18: 0", map.would(0), 0);
        due("18: 1", map.would(1), 1);
        due("18: 3", map.would(2), 3);
        map.put(2, 0);
        due("18: -1", map.would(4), -1);
        due("18: 0 of one in the STASH", map.would(2), 0);
        map = Tapes.mapOf("buckets 3;slots 1;one 1 0;two 1 1;has 0 0;has 1 0;");
        due("18: 2", map.would(3), 2);
        map = Tapes.mapOf("buckets 1;slots 1;stash 0;full grow;" + SAME + "has 0 0;");
        due("18: 5", map.would(1), 5);
        int found = 0;
        for (int seed = 0; seed < 50; seed++) {
            map = Tapes.mapOf("buckets 2;slots 1;stash 0;full rehash;tries 1;seed " + seed + ";" + SAME + "has 0 0;");
            int would = map.would(2);
            found += would == 4 ? 1 : 0;
            due("18: 4 or -1", map.put(2, 2), would);
        }
        due("18: 4, not always", found > 0 && found < 50, true);
    }

    // Promise 18: "-2: no such KEY"
    private void wouldNoKey() {
        TwoChoices map = full();
        for (int key : NO_KEYS) {
            due("18: would(" + key + ")", map.would(key), -2);
        }
        due("18: would(999)", map.would(999), -1);
        due("18: would(0)", new TwoChoices().would(0), 1);
    }

    // Promise 18: "nothing changes, the SEED neither"
    private void wouldChangesNothing() {
        String[] fulls = {"refuse", "rehash", "grow", "test"};
        String[] kicks = {"none", "walk", "shortest"};
        for (String full : fulls) {
            for (String kick : kicks) {
                TwoChoices map = Tapes.mapOf("buckets 2;slots 1;stash 0;tries 3;seed 5;full " + full + ";kick " + kick
                        + ";has 0 0;has 1 1;");
                Tapes.lay(map, "slots 3;");
                map.image(1);
                String before = Seen.all(map);
                for (int key = 0; key < 12; key++) {
                    map.would(key);
                    same("18: nothing changes by would(" + key + ")", Seen.all(map), before);
                }
            }
        }
    }

    // Terms 3

    // "PART of a BUCKET: all BUCKETS to which one can come from it": itself, if there is nothing
    private void partAlone() {
        TwoChoices map = Tapes.mapOf("buckets 16;slots 4;");
        for (int b = 0; b < 16; b++) {
            int[] dues = {1 << b, 0, 4, 0, 4};
            for (int what = 0; what < 5; what++) {
                due("19: part(" + b + ", " + what + ")", map.part(b, what), dues[what]);
            }
        }
        due("24: sixteen PARTS", map.count(23), 16);
        due("24: none is TANGLED", map.count(24), 0);
    }

    // "It is TREE, if MEMBERS are fewer than its BUCKETS, RING, if as many, else TANGLED"
    private void partTreeRingTangled() {
        for (int size = 1; size <= 8; size++) {
            Pairs pairs = new Pairs(8);
            TwoChoices map = Tapes.mapOf("buckets 8;slots 4;" + Pairs.TEXT);
            for (int b = 0; b < size - 1; b++) {
                map.put(pairs.key(b + 1, b), 0);
            }
            int[] tree = {(1 << size) - 1, size - 1, 4 * size, 0, 3 * size + 1};
            for (int what = 0; what < 5; what++) {
                due("19: TREE of " + size + ", " + what, map.part(size - 1, what), tree[what]);
                due("19: from its other end, " + what, map.part(0, what), tree[what]);
            }
            due("24: PARTS", map.count(23), 9 - size);
            due("24: not TANGLED", map.count(24), 0);
            map.put(pairs.key(0, size - 1), 0);
            due("19: RING of " + size, map.part(0, 3), 1);
            due("19: as many MEMBERS", map.part(0, 1), size);
            due("24: still not TANGLED", map.count(24), 0);
            map.put(pairs.key(0, 0), 0);
            due("19: TANGLED of " + size, map.part(0, 3), 2);
            due("19: one more", map.part(0, 1), size + 1);
            due("24: TANGLED", map.count(24), 1);
            due("24: as many PARTS", map.count(23), 9 - size);
        }
    }

    // All BUCKETS in one PART: 16 bits
    private void partOfAll() {
        Pairs pairs = new Pairs(16);
        TwoChoices map = Tapes.mapOf("buckets 16;slots 1;" + Pairs.TEXT);
        for (int b = 0; b < 15; b++) {
            map.put(pairs.key(b, b + 1), 0);
        }
        for (int b = 0; b < 16; b++) {
            due("19: all of them from " + b, map.part(b, 0), 65535);
        }
        due("19: one empty place", map.part(15, 4), 1);
        due("24: one PART", map.count(23), 1);
        map.put(pairs.key(15, 0), 0);
        due("19: no empty place", map.part(0, 4), 0);
        due("19: a RING of 16", map.part(15, 3), 1);
    }

    // "MEMBERS: ENTRIES whose FIRST is in it": those of the STASH, too, which take no place
    private void partWithStash() {
        TwoChoices map = Tapes.mapOf("buckets 2;slots 1;stash 4;kick none;" + SAME + "has 0 0;has 2 0;has 4 0;");
        due("19: MEMBERS", map.part(0, 1), 3);
        due("19: places", map.part(0, 2), 1);
        due("19: empty places", map.part(0, 4), 0);
        due("19: TANGLED", map.part(0, 3), 2);
        due("19: the other one has none", map.part(1, 1), 0);
        Pairs pairs = new Pairs(4);
        map = Tapes.mapOf("buckets 4;slots 1;stash 1;kick none;" + Pairs.TEXT);
        map.put(pairs.key(0, 0), 0);
        map.put(pairs.key(1, 1), 0);
        due("24: four PARTS", map.count(23), 4);
        due("6: into the STASH", map.put(pairs.key(0, 1), 0), 3);
        due("19: one of the STASH joins, too", map.part(1, 0), 3);
        due("24: three PARTS", map.count(23), 3);
    }

    // Promise 19: "NONE: no such BUCKET, another what"
    private void partNoneSuch() {
        TwoChoices map = Tapes.mapOf("buckets 5;has 1 1;");
        int[] buckets = {-1, 5, 16, 100, LEAST, MOST};
        int[] whats = {-1, 5, LEAST, MOST};
        for (int what = 0; what < 5; what++) {
            for (int bucket : buckets) {
                due("19: part(" + bucket + ", " + what + ")", map.part(bucket, what), NONE);
            }
            due("19: part(4, " + what + ")", map.part(4, what) >= 0, true);
        }
        for (int what : whats) {
            due("19: part(0, " + what + ")", map.part(0, what), NONE);
        }
    }

    // "ARRANGED: .. none in the STASH, no BUCKET with more than SLOTS"
    private void fitsTillFull() {
        for (int slots = 1; slots <= 4; slots++) {
            TwoChoices map = Tapes.mapOf("buckets 2;stash 4;kick none;" + SAME + "slots " + slots + ";");
            for (int k = 0; k < slots; k++) {
                due("20: one more than " + k + " of " + slots, map.fits(2 * k), true);
                map.put(2 * k, 0);
            }
            due("20: one too many", map.fits(100), false);
            due("20: but in the other BUCKET", map.fits(101), true);
            due("20: one that is there", map.fits(0), true);
            map.put(100, 0);
            due("20: one is in the STASH", map.count(4), 1);
            due("20: then nothing more", map.fits(101), false);
            due("20: nor those that are there", map.fits(0), false);
            map.drop(100);
            due("20: as before", map.fits(101), true);
        }
        TwoChoices map = new TwoChoices();
        due("20: the KEY 0 of an empty map", map.fits(0), true);
        due("20: the KEY 999", map.fits(999), true);
        Pairs pairs = new Pairs(16);
        map = Tapes.mapOf("buckets 16;slots 1;stash 0;depth 0;" + Pairs.TEXT);
        for (int b = 0; b < 15; b++) {
            map.put(pairs.key(b, b + 1), 0);
        }
        int key = pairs.key(0, 0);
        due("20: fifteen displaced", map.fits(key), true);
        due("18: though it would be REFUSED", map.would(key), -1);
        map.put(pairs.key(15, 15), 0);
        due("20: no place is left", map.fits(key), false);
    }

    // Promise 20: "False: no such KEY, too"
    private void fitsNoKey() {
        for (int key : NO_KEYS) {
            due("20: fits(" + key + ")", new TwoChoices().fits(key), false);
        }
    }

    // "OVER: how many ENTRIES at least would have to go so that the others could be ARRANGED"
    private void overCounts() {
        for (int stash = 0; stash <= 4; stash++) {
            TwoChoices map = Tapes.mapOf("buckets 2;slots 1;stash 4;kick none;" + SAME + "has 0 0;has 1 0;");
            for (int k = 1; k <= stash; k++) {
                map.put(2 * k, 0);
            }
            due("21: over by " + stash, map.over(), stash);
        }
        due("21: all places and 4", full().over(), 4);
        Pairs pairs = new Pairs(3);
        TwoChoices map = Tapes.mapOf("buckets 3;slots 1;stash 4;kick none;" + Pairs.TEXT);
        map.put(pairs.key(0, 1), 0);
        map.put(pairs.key(0, 0), 0);
        due("21: in the STASH, but it could be ARRANGED", map.over(), 0);
        due("21: it is there", map.count(4), 1);
        map.put(pairs.key(1, 1), 0);
        map.put(pairs.key(1, 0), 0);
        due("21: four of two", map.over(), 2);
    }

    // Promise 21, of an empty map
    private void overOfNone() {
        due("21: none", new TwoChoices().over(), 0);
        due("21: one", Tapes.mapOf("buckets 1;slots 1;stash 0;has 0 0;").over(), 0);
    }

    // Promise 22, of an empty map: the least that there are
    private void leastOfNone() {
        for (int what = 0; what < 3; what++) {
            due("22: least(" + what + ")", new TwoChoices().least(what), 1);
        }
    }

    private TwoChoices mapWith(String text, int[] keys) {
        TwoChoices map = Tapes.mapOf(text);
        for (int key : keys) {
            map.put(key, 0);
        }
        due("all are there", map.count(0), keys.length);
        return map;
    }

    // Promise 22: "0: the least BUCKETS, 1 .. 32"; "NONE: none"
    private void leastBuckets() {
        String text = "buckets 16;slots 1;stash 4;" + SAME;
        due("22: 1", mapWith(text, new int[] {7}).least(0), 1);
        due("22: 2", mapWith(text, new int[] {7, 8}).least(0), 2);
        int[] apartBy32 = {975, 101, 408, 665, 740, 191, 854, 3, 91, 437, 626, 977};
        due("22: 32", mapWith(text, apartBy32).least(0), 32);
        // By 33 these would be apart, by no fewer.
        int[] apartBy33 = {816, 376, 880, 302, 37, 443, 968, 93, 213, 348, 525, 625, 371};
        TwoChoices map = mapWith(text, apartBy33);
        String before = Seen.all(map);
        due("22: none up to 32", map.least(0), NONE);
        same("22: nothing changes", Seen.all(map), before);
    }

    // Promise 22: "1: the least SLOTS, 1 .. 9" (no map has so many in one BUCKET that it needs more than 8)
    private void leastSlots() {
        for (int many = 1; many <= 8; many++) {
            TwoChoices map = Tapes.mapOf("buckets 1;slots 4;stash 4;kick none;" + SAME);
            for (int key = 0; key < many; key++) {
                map.put(key, 0);
            }
            due("22: " + many + " in one BUCKET", map.least(1), many);
        }
        due("22: 16 BUCKETS", full().least(1), 5);
    }

    // Promise 22: "2: the least SEED, 1 .. 40"; "NONE: none"
    private void leastSeed() {
        due("22: 1", Tapes.mapOf("slots 1;has 1 1;").least(2), 1);
        int[] seed40 = {59, 13, 20, 34, 31, 2, 5, 32, 21};
        TwoChoices map = mapWith("buckets 9;slots 1;stash 4;kick none;seed 6;", seed40);
        String before = Seen.all(map);
        due("22: 40", map.least(2), 40);
        same("22: nothing changes", Seen.all(map), before);
        // From the SEED 41 it would do, from none before.
        int[] seed41 = {819, 669, 289, 307, 696, 238, 851, 497, 910};
        due("22: not 41", mapWith("buckets 9;slots 1;stash 4;kick none;", seed41).least(2), NONE);
        map = Tapes.mapOf("buckets 1;slots 1;stash 1;has 0 0;has 1 1;");
        due("22: none", map.least(2), NONE);
    }

    // Promise 22: "NONE: .. for another what"
    private void leastAnotherWhat() {
        int[] wrong = {3, -1, LEAST, MOST};
        for (int what : wrong) {
            due("22: least(" + what + ")", new TwoChoices().least(what), NONE);
        }
    }

    // Promise 23: "NONE: not so many"
    private void keyNotSoMany() {
        int[] wrong = {-1, LEAST, MOST};
        TwoChoices empty = new TwoChoices();
        TwoChoices map = full();
        for (int turn = 0; turn < 2; turn++) {
            boolean born = turn == 1;
            due("23: none of none", empty.key(0, born), NONE);
            due("23: the first", map.key(0, born), 0);
            due("23: the last", map.key(67, born), 67);
            due("23: one too many", map.key(68, born), NONE);
            for (int k : wrong) {
                due("23: key(" + k + ")", map.key(k, born), NONE);
                due("23: key(" + k + ") of none", empty.key(k, born), NONE);
            }
        }
    }

    // Promise 23: "rising, or (born) by BORN"
    private void keyByBorn() {
        TwoChoices map = Tapes.mapOf("buckets 2;slots 1;stash 3;kick none;" + SAME + "has 999 0;has 3 0;has 0 0;has 5 0;");
        int[] rising = {0, 3, 5, 999};
        int[] born = {999, 3, 0, 5};
        for (int k = 0; k < 4; k++) {
            due("23: key(" + k + ", false)", map.key(k, false), rising[k]);
            due("23: key(" + k + ", true)", map.key(k, true), born[k]);
        }
    }

    // Promise 24: "NONE for another what"
    private void countAnotherWhat() {
        int[] wrong = {-1, 27, LEAST, MOST};
        for (int what : wrong) {
            due("24: count(" + what + ")", full().count(what), NONE);
        }
        for (int what = 0; what <= 26; what++) {
            due("24: count(" + what + ") is one", full().count(what) >= 0, true);
        }
    }

    // Promise 24, of an empty map: "(0 none)" and others
    private void countOfNone() {
        TwoChoices map = new TwoChoices();
        int[] noughts = {0, 4, 14, 15, 16, 17, 18, 19, 20, 21, 22, 24, 25, 26};
        for (int what : noughts) {
            due("24: count(" + what + ")", map.count(what), 0);
        }
        due("24: PARTS", map.count(23), 4);
        due("24: empty places", map.count(5), 8);
    }

    // Promise 24: "4: ENTRIES in it, 5: empty places" (the STASH has none)
    private void countPlaces() {
        TwoChoices map = Tapes.mapOf("buckets 16;slots 4;stash 4;kick none;" + SAME);
        for (int key = 0; key < 68; key++) {
            due("24: ENTRIES", map.count(0), key);
            due("24: in the STASH", map.count(4), Math.max(0, key - 64));
            due("24: empty places", map.count(5), Math.max(0, 64 - key));
            map.put(key, 0);
        }
        due("24: 68 ENTRIES", map.count(0), 68);
        due("6: no more", map.put(68, 0), NONE);
        due("24: 68 all the same", map.count(0), 68);
    }

    // Promise 24: "18: MOVED of all ENTRIES, 19: the greatest MOVED": of those that are, the KEY 0 in the first place, too
    private void countMoved() {
        TwoChoices map = Tapes.mapOf("buckets 2;slots 1;stash 1;" + SAME + "has 2 0;has 0 0;");
        due("24: none MOVED", 10 * map.count(18) + map.count(19), 0);
        map.drop(2);
        due("24: 0 is in the first place", map.at(0, 0, 0), 0);
        due("24: it MOVED", 10 * map.count(18) + map.count(19), 11);
        map.put(1, 0);
        due("24: of both", 10 * map.count(18) + map.count(19), 11);
        map.drop(0);
        due("24: it is gone, and so is what it MOVED", 10 * map.count(18) + map.count(19), 0);
    }

    // Promise 24: "21: the greatest READ of any ENTRY": the KEY 0 in the first place, too
    private void countRead() {
        // FIRST and SECOND are, of 0: 1, 0; of 1: 0, 1; of 2: 1, 0.
        TwoChoices map = Tapes.mapOf("buckets 2;slots 1;stash 1;kick none;one 1 1;two 1 0;has 2 0;has 0 0;");
        due("24: 0 is in the first place", map.at(0, 0, 0), 0);
        due("24: two are READ for it", map.count(21), 2);
        map.drop(2);
        due("24: of those that are", map.count(21), 2);
        map.put(2, 0);
        due("24: into the STASH", map.put(4, 0), 3);
        due("24: three are READ", map.count(21), 3);
        map.drop(4);
        map.drop(0);
        due("24: one is READ", map.count(21), 1);
        map.drop(2);
        due("24: none", map.count(21), 0);
    }

    // Promise 24: "23: PARTS, 24: those that are TANGLED", each asked for by itself
    private void countTangledAlone() {
        TwoChoices map = Tapes.mapOf("buckets 2;slots 1;stash 2;" + SAME + "has 0 0;has 2 0;");
        due("24: one TANGLED", map.count(24), 1);
        map.put(1, 0);
        due("24: no other", map.count(24), 1);
        map.put(3, 0);
        due("24: two TANGLED", map.count(24), 2);
        map.drop(0);
        due("24: one again", map.count(24), 1);
        due("24: two PARTS", map.count(23), 2);
    }

    // Promise 25: "How many BUCKETS have so many ENTRIES, 0 .. 4"
    private void filledEach() {
        TwoChoices map = Tapes.mapOf("buckets 16;slots 4;stash 4;kick none;" + SAME);
        for (int key = 0; key < 68; key++) {
            map.put(key, 0);
            for (int many = 0; many <= 4; many++) {
                int fuller = Math.min(key, 63) % 16 + 1;
                int level = Math.min(key, 63) / 16;
                int due = many == level + 1 ? fuller : many == level ? 16 - fuller : 0;
                due("25: filled(" + many + ") of " + key, map.filled(many), due);
            }
        }
    }

    // Promise 25: "NONE: no such number"
    private void filledNoSuchNumber() {
        int[] wrong = {-1, 5, LEAST, MOST};
        for (int many : wrong) {
            due("25: filled(" + many + ")", full().filled(many), NONE);
        }
        TwoChoices map = Tapes.mapOf("slots 1;");
        due("25: 4, though there are fewer SLOTS", map.filled(4), 0);
        due("25: 0", map.filled(0), 4);
    }

    // Promise 26: "NONE: there are no ENTRIES"
    private void restlessNone() {
        TwoChoices map = new TwoChoices();
        due("26: none", map.restless(), NONE);
        map.put(0, 0);
        due("26: one that did not move", map.restless(), 0);
        map.drop(0);
        due("26: none again", map.restless(), NONE);
    }

    // Promise 26: "of several the least KEY"
    private void restlessLeastKey() {
        TwoChoices map = full();
        due("26: none moved", map.restless(), 0);
        map.drop(5);
        due("26: none of the STASH came", map.restless(), 0);
        map.drop(3);
        due("26: 67 came", map.restless(), 67);
        map.drop(2);
        due("26: 66 came, too", map.restless(), 66);
        due("26: both MOVED 1", 10 * map.find(66, 4) + map.find(67, 4), 11);
        due("26: not the first BORN", Tapes.mapOf("has 9 0;has 4 0;has 7 0;").restless(), 4);
    }

    // Promise 27: "-1 or 1 .. 5"; "NONE: none"
    private void whichEach() {
        TwoChoices map = Tapes.mapOf("buckets 2;slots 1;stash 1;" + SAME + "has 0 0;");
        due("27: 1", map.which(1), 1);
        due("27: 3", map.which(3), 2);
        due("27: -1, none", map.which(-1), NONE);
        due("27: 2, none", map.which(2), NONE);
        map.put(2, 0);
        due("27: -1", map.which(-1), 4);
        due("27: 3, none", map.which(3), NONE);
        map.put(1, 0);
        due("27: 1, none", map.which(1), NONE);
        due("27: -1, the least that has no ENTRY", map.which(-1), 3);
        map = Tapes.mapOf("buckets 3;slots 1;one 1 0;two 1 1;has 0 0;has 1 0;");
        due("27: 2", map.which(2), 3);
        map = Tapes.mapOf("buckets 1;slots 1;stash 0;full grow;" + SAME + "has 0 0;");
        due("27: 5", map.which(5), 1);
        due("27: 4, none", map.which(4), NONE);
        int found = NONE;
        map = Tapes.mapOf("buckets 2;slots 1;stash 0;full rehash;tries 4;seed 2;" + SAME + "has 0 0;");
        for (int key = 98; key > 0; key -= 2) {
            found = map.would(key) == 4 ? key : found;
        }
        due("27: 4", map.which(4), found);
        due("27: there is one", found > 0, true);
    }

    // Promise 27: "The least KEY below 100"
    private void whichBelow100() {
        // 10 times a KEY and 9 (19) is odd, but of 100 (99), of which it is 1009: its BUCKET is 0.
        String text = "buckets 2;slots 1;stash 0;kick none;has 0 0;";
        TwoChoices map = Tapes.mapOf(text + "one 10 19;two 10 19;");
        due("27: 99", map.which(1), 99);
        map = Tapes.mapOf(text + "one 10 9;two 10 9;");
        due("18: 100 would", map.would(100), 1);
        due("27: 100 is too large", map.which(1), NONE);
        due("27: 0", new TwoChoices().which(1), 0);
    }

    // Promise 27: "another answer"
    private void whichAnother() {
        int[] wrong = {0, 6, -2, LEAST, MOST};
        TwoChoices map = Tapes.mapOf("has 0 0;");
        for (int answer : wrong) {
            due("27: which(" + answer + ")", map.which(answer), NONE);
        }
    }

    // Promise 28: "n times, 1 .. 12"; "NONE: another n"
    private void triedN() {
        int[] wrong = {0, 13, -1, LEAST, MOST};
        TwoChoices map = Tapes.mapOf("buckets 16;slots 4;");
        for (int n : wrong) {
            for (int what = -1; what <= 27; what++) {
                due("28: tried(5, " + n + ", " + what + ")", map.tried(5, n, what), NONE);
            }
        }
        for (int n = 1; n <= 12; n++) {
            TwoChoices twin = Tapes.mapOf("buckets 16;slots 4;");
            twin.load(5, n);
            due("28: tried(5, " + n + ", 14)", map.tried(5, n, 14), twin.count(14));
            due("28: tried(5, " + n + ", 0)", map.tried(5, n, 0), twin.count(0));
        }
    }

    // Promise 28: "what as count() then"; "NONE: another .. what (26, too)"
    private void triedWhat() {
        String[] texts = {
            "kick walk;full rehash;tries 4;buckets 2;slots 1;stash 1;seed 3;has 1 1;", "full grow;buckets 2;slots 1;",
            "buckets 1;slots 1;stash 0;"
        };
        for (String text : texts) {
            TwoChoices map = Tapes.mapOf(text);
            TwoChoices twin = Tapes.mapOf(text);
            map.get(1);
            twin.get(1);
            twin.load(-5, 12);
            for (int what = 0; what <= 25; what++) {
                due("28: tried(-5, 12, " + what + ")", map.tried(-5, 12, what), twin.count(what));
            }
        }
        int[] wrong = {26, 27, -1, LEAST, MOST};
        TwoChoices map = new TwoChoices();
        map.feed(0, 0, 0, 0, 0);
        for (int what : wrong) {
            due("28: tried(5, 1, " + what + ")", map.tried(5, 1, what), NONE);
        }
    }

    // Promise 28: "(nothing stays)"
    private void triedNothingStays() {
        String[] fulls = {"refuse", "rehash", "grow", "test"};
        for (String full : fulls) {
            TwoChoices map = Tapes.mapOf("kick walk;tries 4;buckets 2;slots 1;stash 1;seed 3;has 1 1;has 2 2;full " + full
                    + ";");
            Tapes.lay(map, "slots 3;");
            map.image(0);
            String before = Seen.all(map);
            for (int seed = -5; seed < 5; seed++) {
                map.tried(seed, 12, seed + 5);
                same("28: nothing stays", Seen.all(map), before);
            }
            due("28: the tape's bytes, too", map.text() == 0 && map.count(2) == 3, true);
        }
    }

    // Promise 29: "NONE: there is no such image"
    private void lostNoneSuch() {
        int[] wrong = {-1, 3, LEAST, MOST};
        TwoChoices map = new TwoChoices();
        for (int k = 0; k < 3; k++) {
            due("29: lost(" + k + ") of none", map.lost(k), NONE);
            map.image(k);
            due("29: lost(" + k + ") of an empty one", map.lost(k), 0);
        }
        for (int k : wrong) {
            due("29: lost(" + k + ")", map.lost(k), NONE);
        }
    }

    // Promise 29: "ENTRIES of an image that have none of the same KEY and VALUE now"
    private void lostSameKeyAndValue() {
        TwoChoices map = full();
        map.image(2);
        due("29: none", map.lost(2), 0);
        map.put(0, 1);
        due("29: another VALUE", map.lost(2), 1);
        map.put(0, 900);
        due("29: the same again", map.lost(2), 0);
        map.drop(67);
        due("29: of the STASH", map.lost(2), 1);
        map.put(67, 903);
        due("29: it came again, BORN later", map.lost(2), 0);
        due("29: moved ones are not lost", map.rehash(1, 1, 1, 1) ? map.lost(2) : NONE, 0);
        map.text();
        due("29: all", map.lost(2), 68);
        map.put(5, 905);
        map.put(700, 905);
        due("29: all but one", map.lost(2), 67);
        map.image(1);
        map.again(2);
        due("29: those of the image, not those of now", map.lost(1), 1);
    }

    // Promise 30: "Image k (0 .. 2)"; "false for another k"
    private void imageOfThree() {
        TwoChoices map = Tapes.mapOf("has 1 1;");
        int[] wrong = {-1, 3, LEAST, MOST};
        String before = Seen.all(map);
        for (int k : wrong) {
            due("30: image(" + k + ")", map.image(k), false);
            same("30: there is none by it", Seen.all(map), before);
        }
        for (int k = 0; k < 3; k++) {
            map.put(1, k);
            due("30: image(" + k + ")", map.image(k), true);
        }
        for (int k = 0; k < 3; k++) {
            due("31: again(" + k + ")", map.again(k), true);
            due("31: each has its own", map.get(1), k);
        }
    }

    // Promise 31: "false if there is none such"
    private void againNoneSuch() {
        TwoChoices map = Tapes.mapOf("has 1 1;");
        map.image(1);
        map.put(2, 2);
        String before = Seen.all(map);
        int[] wrong = {0, 2, -1, 3, LEAST, MOST};
        for (int k : wrong) {
            due("31: again(" + k + ")", map.again(k), false);
            same("31: nothing changes", Seen.all(map), before);
        }
        due("31: again(1)", map.again(1), true);
        due("31: as it was then", map.count(0), 1);
    }

    // Promise 30: "all that is (the tape, the FAULT, SETTINGS, too), as it is now"; promise 31: "All that is is as image k has it"
    private void againAllThatIs() {
        TwoChoices map = Tapes.mapOf("buckets 3;slots 1;stash 2;kick walk;full grow;seed 6;tries 1;depth 3;has 1 1;has 2 2;");
        map.load(9, 8);
        map.get(1);
        map.rehash(7, 7, 9, 9);
        Tapes.tell(map, "  x");
        Tapes.lay(map, "slots 3;");
        map.image(0);
        String before = Seen.all(map);
        Tapes.tell(map, "buckets 16;slots 4;stash 0;full test;one 1 0;two 5 6;seed 1;has 7 7;");
        Tapes.lay(map, "slots 2;kick none;");
        due("31: again(0)", map.again(0), true);
        same("31: all that is", Seen.all(map), before);
        due("31: the FAULT", map.fault(0), 1);
        due("31: its place", map.fault(1), 2);
        due("31: the tape", map.text() == 0 && map.count(2) == 3, true);
        due("31: once more", map.again(0), true);
        same("31: all that is, once more", Seen.all(map), before);
    }

    // The same of as many ENTRIES as there may be, the last of the STASH with what it MOVED
    private void againOfAFullStash() {
        TwoChoices map = Tapes.mapOf("buckets 5;slots 1;stash 4;one 1 0;two 1 1;has 2 0;has 3 0;has 7 0;has 0 0;has 1 5;");
        due("31: 3 MOVED", map.find(3, 4), 1);
        due("31: all but one into the STASH", map.rehash(5, 0, 5, 0), true);
        due("31: 3 is the last of it", map.at(100, 3, 0), 3);
        due("31: what it MOVED", map.at(100, 3, 3), 1);
        TwoChoices[] maps = {map, full()};
        for (TwoChoices each : maps) {
            each.image(1);
            String before = Seen.all(each);
            Tapes.tell(each, "buckets 5;slots 1;stash 4;kick none;one 1 1;two 1 2;");
            for (int key = 100; key < 130; key += 5) {
                each.put(key, 1);
            }
            due("31: others fill the STASH", each.at(100, 3, 0), 125);
            due("31: again(1)", each.again(1), true);
            same("31: all that is", Seen.all(each), before);
        }
    }

    // again() gives back what an image has; the images stay as they are
    private void againKeepsImages() {
        TwoChoices map = Tapes.mapOf("has 1 1;");
        map.image(0);
        map.put(2, 2);
        map.image(1);
        map.again(0);
        due("31: one ENTRY", map.count(0), 1);
        due("31: the later image is there", map.lost(1), 1);
        due("31: again(1)", map.again(1), true);
        due("31: two ENTRIES", map.count(0), 2);
        map.put(3, 3);
        map.again(1);
        due("31: an image does not go on with the map", map.count(0), 2);
    }
}
