import java.util.ArrayList;
import java.util.List;

/** Terms 1 and 2 and promises 6 to 13: each sentence that names an edge of how entries come and go, by itself. */
public final class MapEdgesTest {
    private static final int NONE = TwoChoices.NONE;
    private static final int LEAST = Integer.MIN_VALUE;
    private static final int MOST = Integer.MAX_VALUE;

    /** FIRST and SECOND are both the key modulo the buckets. */
    private static final String SAME = "slots 1;one 1 0;two 1 0;";

    private final Checks checks = new Checks();

    public static void main(String[] args) {
        MapEdgesTest test = new MapEdgesTest();
        test.terms();
        test.chains();
        test.layingAnew();
        test.leaving();
        test.checks.end();
    }

    private void terms() {
        modulo1009ThenBuckets();
        firstAndSecondTheSame();
        seedOf32Bits();
        shiftedWithoutSign();
        bornCountsAllPuts();
        movedIsNoughtAtFirst();
        stashInOrder();
        secondIfAnother();
        stashIfNotEmpty();
        keysAndValuesOfPut();
        valueOfAnOldOne();
        leastEmptyPlaceOfFirst();
        elseOfSecond();
        kickNone();
        stashTillItIsFull();
        refused();
    }

    private void chains() {
        chainOfDepth();
        testHoweverLong();
        testBehindTheStash();
        testAsByRehash();
        chainNoOtherBucket();
        chainNoEmptyPlace();
        chainNoBucketTwice();
        chainFewest();
        chainFirstAheadOfSecond();
        chainLesserPlace();
        chainNextByItsPlace();
        chainIntoTheNextOnesPlace();
        chainOfTheKeyNought();
        chainByFirstOrSecond();
        chainBackToFirst();
        walkOfDepth();
        walkTakesTheNewOneOut();
        walkInTheSameBucket();
        walkBackToFirst();
        walkInVainThenStash();
    }

    private void layingAnew() {
        rehashInVain();
        rehashAtTheLastTry();
        rehashInOrder();
        rehashKeepsBornAndMoved();
        growTillEight();
        growTwiceAsManyAgain();
        growNever();
        growNeverButForTheSeed();
        rehashByHandNumbers();
        rehashByHandNotAll();
        rehashByHandOfNone();
        batchOfNone();
        batchOfPeeled();
        batchNotAllOfTheCore();
        peelSlotsOrFewer();
        peelLeastBucketAgain();
        peelByKeysRising();
        peelEveryBucket();
        peelTwiceWithACore();
        peelNotSoMany();
    }

    private void leaving() {
        dropOfNone();
        dropOutOfTheStash();
        dropLetsTheFirstIn();
        dropLetsOneInBySecond();
        dropLetsNoneInElsewhere();
        dropIsForGood();
        settleOfDepth();
        settleWhateverKickIs();
        settleOfAnEmptyStash();
        settleOneByOne();
        loadOfOneToTwelve();
        loadOfAnotherN();
        loadByAnySeed();
        loadDropsIfThereIsOne();
    }

    private void due(String call, long got, long want) {
        checks.due(call, got, want);
    }

    private void due(String call, boolean got, boolean want) {
        checks.due(call, got, want);
    }

    private void same(String call, String got, String want) {
        checks.due(call + ": " + got + ", due " + want, got.equals(want), true);
    }

    /** All but PUTS and REFUSED, which a refused put counts, and the SEED. */
    private static String butPuts(TwoChoices map) {
        StringBuilder s = new StringBuilder(Seen.entries(map));
        for (int what = 0; what <= 26; what++) {
            s.append(what == 14 || what == 15 || what == 25 ? "" : " " + map.count(what));
        }
        return s.toString();
    }

    /** A put that is REFUSED: PUTS and REFUSED are 1 more, all else but the SEED is as it was. */
    private void refusedPut(String call, TwoChoices map, int key, int seed) {
        String before = butPuts(map);
        int puts = map.count(14);
        int refused = map.count(15);
        due(call + ": REFUSED", map.put(key, 5), NONE);
        same(call + ": as it was", butPuts(map), before);
        due(call + ": PUTS", map.count(14), puts + 1);
        due(call + ": REFUSED ones", map.count(15), refused + 1);
        due(call + ": the SEED", map.count(25), seed);
        due(call + ": no ENTRY of it", map.find(key, 0), NONE);
    }

    // Terms 1

    // "(a times KEY and b) modulo 1009, that modulo BUCKETS"
    private void modulo1009ThenBuckets() {
        TwoChoices map = Tapes.mapOf("buckets 16;one 3 1;two 1008 1008;");
        // 3 times 336 and 1 is 1009, 3 times 335 and 1 is 1006; 1008 times 1000 is 9 modulo 1009.
        due("FIRST of 336", map.hash(336, false), 0);
        due("FIRST of 335", map.hash(335, false), 1006 % 16);
        due("FIRST of 337", map.hash(337, false), 3);
        due("SECOND of 999", map.hash(999, true), 9);
        due("SECOND of 0", map.hash(0, true), 1008 % 16);
        due("SECOND of 0 of 16 is 0", map.hash(0, true), 0);
        due("SECOND of 1", map.hash(1, true), 1007 % 16);
        map = Tapes.mapOf("buckets 10;one 3 1;two 1008 1008;");
        due("FIRST of 335 of 10", map.hash(335, false), 6);
        due("SECOND of 0 of 10", map.hash(0, true), 8);
    }

    // "SECOND: by TWO likewise (it may be the same one)"
    private void firstAndSecondTheSame() {
        TwoChoices map = Tapes.mapOf("buckets 1;one 1008 1008;two 1 0;");
        for (int key = 0; key < 1000; key += 111) {
            due("FIRST of one bucket", map.hash(key, false), 0);
            due("SECOND of one bucket", map.hash(key, true), 0);
        }
        due("it is put once", map.put(5, 5), 1);
        due("there is no other", map.at(0, 0, 4), NONE);
    }

    // "SEED becomes SEED times 1103515245 and 12345 (of 32 bits)"; "(25 may be below 0)"
    private void seedOf32Bits() {
        int below = 0;
        for (int seed = 0; seed < 10000; seed += 303) {
            for (int depth = 0; depth <= 16; depth += 4) {
                TwoChoices map = Tapes.mapOf("buckets 2;stash 0;kick walk;" + SAME + "has 0 0;depth " + depth + ";seed "
                        + seed + ";");
                map.put(2, 2);
                due("the SEED after " + depth + " draws", map.count(25), Drawn.seedAfter(seed, depth));
                below += map.count(25) < 0 ? 1 : 0;
            }
        }
        due("some SEEDS are below 0", below > 20, true);
    }

    // "it is that shifted right by 16 without sign, remainder by n"
    private void shiftedWithoutSign() {
        int others = 0;
        for (int seed = 0; seed < 300; seed++) {
            Pairs pairs = new Pairs(2);
            TwoChoices map = Tapes.mapOf("buckets 2;slots 3;stash 0;depth 1;kick walk;seed " + seed + ";" + Pairs.TEXT);
            for (int k = 0; k < 3; k++) {
                due("into FIRST", map.put(pairs.key(0, 1), 0), 1);
            }
            int place = new Drawn(seed).below(3);
            int key = pairs.key(0, 0);
            due("by a walk of one", map.put(key, 0), 2);
            due("the place that is drawn", map.find(key, 1), place);
            others += Math.floorMod(map.count(25) >> 16, 3) != place ? 1 : 0;
        }
        due("with a sign some would be others", others > 20, true);
    }

    // Terms 2

    // "BORN (how many PUTS there were till it came, this one, those that were REFUSED, too)"
    private void bornCountsAllPuts() {
        TwoChoices map = Tapes.mapOf("buckets 2;stash 0;" + SAME);
        map.put(0, 1);
        due("the first is 1", map.find(0, 3), 1);
        due("REFUSED", map.put(2, 1), NONE);
        due("an old one", map.put(0, 2), 0);
        map.put(1000, 1);
        map.put(1, 1000);
        map.put(1, 1);
        due("the fourth of those counted", map.find(1, 3), 4);
        map.drop(0);
        map.put(0, 3);
        due("born anew", map.find(0, 3), 5);
    }

    // "MOVED (0 at first)"
    private void movedIsNoughtAtFirst() {
        TwoChoices map = Tapes.mapOf("buckets 2;stash 1;" + SAME);
        map.put(0, 0);
        due("in a bucket", map.find(0, 4), 0);
        map.put(2, 0);
        due("in the stash", map.find(2, 4), 0);
        map.drop(0);
        due("moved out of the stash", map.find(2, 4), 1);
        map.drop(2);
        map.put(2, 0);
        due("come anew", map.find(2, 4), 0);
    }

    // "the STASH, which has its ENTRIES in the order in which they came"
    private void stashInOrder() {
        TwoChoices map = Tapes.mapOf("buckets 2;stash 4;kick none;" + SAME + "has 0 0;has 8 8;has 2 2;has 6 6;has 4 4;");
        int[] keys = {8, 2, 6, 4};
        for (int place = 0; place < 4; place++) {
            due("at(100, " + place + ", 0)", map.at(100, place, 0), keys[place]);
            due("its place", map.find(keys[place], 1), place);
        }
        map.drop(2);
        map.put(2, 2);
        due("one that comes again is the last", map.find(2, 1), 3);
        due("the first one stays", map.find(8, 1), 0);
    }

    private void reads(String call, TwoChoices map, int key, int reads) {
        int before = map.count(20);
        int answer = map.get(key);
        due(call + ": READ of " + key, map.count(20) - before, reads);
        due(call + ": find(" + key + ", 2)", map.find(key, 2), answer < 0 ? NONE : reads);
    }

    // "A KEY is looked for in FIRST, then, if that is another one, in SECOND"
    private void secondIfAnother() {
        Pairs pairs = new Pairs(3);
        int one = pairs.key(0, 0);
        int two = pairs.key(0, 1);
        TwoChoices map = Tapes.mapOf("buckets 3;slots 1;stash 2;kick none;" + Pairs.TEXT);
        map.put(one, 1);
        map.put(two, 2);
        reads("in FIRST", map, one, 1);
        reads("in SECOND", map, two, 2);
        reads("nowhere, of two", map, pairs.key(2, 1), 2);
        reads("nowhere, of one", map, pairs.key(2, 2), 1);
        due("the greatest READ", map.count(21), 2);
    }

    // "then, if it is not empty, in the STASH"; "and 1 more, if the STASH was"
    private void stashIfNotEmpty() {
        Pairs pairs = new Pairs(3);
        int full = pairs.key(0, 0);
        int stashed = pairs.key(0, 0);
        int further = pairs.key(0, 1);
        int other = pairs.key(2, 1);
        TwoChoices map = Tapes.mapOf("buckets 3;slots 1;stash 2;kick none;" + Pairs.TEXT);
        map.put(full, 0);
        reads("an empty STASH", map, other, 2);
        reads("an empty STASH, one bucket", map, stashed, 1);
        due("into the STASH", map.put(stashed, 0), 3);
        reads("in the STASH, one bucket", map, stashed, 2);
        reads("nowhere, of two and the STASH", map, other, 3);
        reads("found ahead of it", map, full, 1);
        map.put(pairs.key(1, 1), 0);
        due("into the STASH", map.put(further, 0), 3);
        reads("in the STASH, two buckets", map, further, 3);
        due("the greatest READ", map.count(21), 3);
        map.drop(stashed);
        due("it is the first of the STASH now", map.find(further, 1), 0);
        reads("the first of the STASH, two buckets", map, further, 3);
        map.drop(further);
        reads("the STASH is empty again", map, other, 2);
    }

    // Promise 6: "NONE: no such KEY, VALUE (neither is counted)"
    private void keysAndValuesOfPut() {
        TwoChoices map = Tapes.mapOf("seed 3;kick walk;full rehash;has 7 70;");
        String before = Seen.all(map);
        int[] wrong = {-1, 1000, LEAST, MOST};
        for (int n : wrong) {
            due("6: put(" + n + ", 0)", map.put(n, 0), NONE);
            due("6: put(0, " + n + ")", map.put(0, n), NONE);
            due("6: put(7, " + n + ")", map.put(7, n), NONE);
            due("6: put(" + n + ", " + n + ")", map.put(n, n), NONE);
            same("6: all is as it was", Seen.all(map), before);
        }
        due("6: put(0, 999)", map.put(0, 999), 1);
        due("6: put(999, 0)", map.put(999, 0), 1);
        due("6: the value 999", map.get(0), 999);
        due("6: the value 0", map.get(999), 0);
    }

    // "if there is an ENTRY of it, its VALUE is that from now on (0)", even if all is full
    private void valueOfAnOldOne() {
        TwoChoices map = Tapes.mapOf("buckets 1;stash 1;full grow;kick walk;" + SAME + "has 0 0;has 1 1;");
        int seed = map.count(25);
        due("6: one in the bucket", map.put(0, 10), 0);
        due("6: one in the stash", map.put(1, 11), 0);
        due("6: its value", map.get(0), 10);
        due("6: its value", map.get(1), 11);
        due("6: born as before", map.find(1, 3), 2);
        due("6: where it was", map.find(1, 0), 100);
        due("6: nothing grew", map.count(1), 1);
        due("6: nothing moved", map.count(18), 0);
        due("6: two PUTS more", map.count(14), 4);
        due("6: nothing drawn", map.count(25), seed);
    }

    // "(a) into the least empty place of FIRST"
    private void leastEmptyPlaceOfFirst() {
        Pairs pairs = new Pairs(2);
        TwoChoices map = Tapes.mapOf("buckets 2;slots 4;stash 0;" + Pairs.TEXT);
        int[] keys = new int[4];
        for (int place = 0; place < 4; place++) {
            keys[place] = pairs.key(0, 0);
            due("6: (a)", map.put(keys[place], 0), 1);
            due("6: place by place", map.find(keys[place], 1), place);
        }
        map.drop(keys[3]);
        map.drop(keys[1]);
        int next = pairs.key(0, 1);
        int last = pairs.key(0, 1);
        due("6: (a)", map.put(next, 0), 1);
        due("6: the lesser of two", map.find(next, 1), 1);
        due("6: (a)", map.put(last, 0), 1);
        due("6: the last place of FIRST is ahead of SECOND", 10 * map.find(last, 0) + map.find(last, 1), 3);
    }

    // "(a) .. else of SECOND (1)"
    private void elseOfSecond() {
        Pairs pairs = new Pairs(2);
        TwoChoices map = Tapes.mapOf("buckets 2;slots 2;stash 0;kick none;" + Pairs.TEXT);
        map.put(pairs.key(0, 0), 0);
        map.put(pairs.key(0, 0), 0);
        int hole = pairs.key(1, 1);
        map.put(hole, 0);
        map.put(pairs.key(1, 1), 0);
        map.drop(hole);
        int key = pairs.key(0, 1);
        due("6: (a)", map.put(key, 0), 1);
        due("6: the least empty place of SECOND", 10 * map.find(key, 0) + map.find(key, 1), 10);
        refusedPut("6: neither has one", map, pairs.key(0, 1), 0);
    }

    // "(b) .. none: not so"
    private void kickNone() {
        Pairs pairs = new Pairs(2);
        int there = pairs.key(0, 1);
        int key = pairs.key(0, 0);
        TwoChoices map = Tapes.mapOf("buckets 2;slots 1;stash 0;kick none;depth 16;seed 4;" + Pairs.TEXT);
        map.put(there, 0);
        due("6: there is a CHAIN", map.chain(key, NONE), 1);
        refusedPut("6: but not so", map, key, 4);
    }

    // "(c) else as the last one into the STASH, if that has fewer than it may have (3)"
    private void stashTillItIsFull() {
        for (int stash = 0; stash <= 4; stash++) {
            TwoChoices map = Tapes.mapOf("buckets 1;stash " + stash + ";" + SAME + "has 0 0;");
            for (int k = 1; k <= stash; k++) {
                due("6: into the STASH of " + stash, map.put(k, 0), 3);
                due("6: as the last one", map.find(k, 1), k - 1);
                due("6: so many are in it", map.count(4), k);
            }
            refusedPut("6: a full STASH of " + stash, map, 5, 0);
        }
    }

    // "(d) else by FULL: refuse: it is REFUSED"
    private void refused() {
        String[] kicks = {"none", "shortest"};
        for (String kick : kicks) {
            TwoChoices map = Tapes.mapOf("buckets 1;stash 1;tries 4;seed 8;kick " + kick + ";" + SAME + "has 0 0;has 1 1;");
            refusedPut("6: refuse", map, 2, 8);
        }
    }

    /** Buckets 0 to many - 1 are full, each with one that may go to the next; a key of bucket 0 alone is told. */
    private static TwoChoices row(int many, Pairs pairs, String text) {
        TwoChoices map = Tapes.mapOf("buckets 16;slots 1;stash 0;" + Pairs.TEXT + text);
        for (int b = 0; b < many; b++) {
            map.put(pairs.key(b, b + 1), b);
        }
        return map;
    }

    // "(b) .. shortest: by the CHAIN, if it has DEPTH or fewer"
    private void chainOfDepth() {
        for (int many = 1; many <= 15; many++) {
            for (int depth = 0; depth <= 16; depth++) {
                Pairs pairs = new Pairs(16);
                TwoChoices map = row(many, pairs, "seed 6;depth " + depth + ";");
                int key = pairs.key(0, 0);
                due("17: of " + many, map.chain(key, NONE), many);
                due("17: its last", map.chain(key, many - 1), 10 * (many - 1));
                due("17: not so many", map.chain(key, many), -2);
                if (many > depth) {
                    refusedPut("6: " + many + " of DEPTH " + depth, map, key, 6);
                } else {
                    due("6: " + many + " of DEPTH " + depth, map.put(key, 9), 2);
                    due("24: the longest CHAIN", map.count(22), many);
                    due("24: MOVED of all", map.count(18), many);
                    due("6: the last one's other bucket", map.at(many, 0, 1), many - 1);
                    due("6: the new one", map.at(0, 0, 1), 9);
                }
            }
        }
    }

    // "(d) .. test: by the CHAIN, however long it is (2)"
    private void testHoweverLong() {
        String[] kicks = {"none", "walk", "shortest"};
        for (String kick : kicks) {
            for (int many = 1; many <= 15; many++) {
                Pairs pairs = new Pairs(16);
                TwoChoices map = row(many, pairs, "depth 0;full test;kick " + kick + ";");
                due("6: test, " + kick + " " + many, map.put(pairs.key(0, 0), 9), 2);
                due("24: the longest CHAIN", map.count(22), many);
                due("24: no HASHES were changed", map.count(16), 0);
                due("24: nothing was drawn", map.count(25), 0);
            }
        }
    }

    // (c) comes ahead of (d)
    private void testBehindTheStash() {
        Pairs pairs = new Pairs(16);
        TwoChoices map = row(1, pairs, "depth 0;full test;stash 1;");
        due("6: into the STASH", map.put(pairs.key(0, 0), 9), 3);
        due("6: then by the CHAIN", map.put(pairs.key(0, 0), 9), 2);
    }

    // "test: .. but if there is none, as by rehash"
    private void testAsByRehash() {
        int helped = 0;
        for (int seed = 0; seed < 20; seed++) {
            for (int tries = 0; tries <= 4; tries++) {
                String text = "buckets 2;stash 0;tries " + tries + ";seed " + seed + ";" + SAME + "has 0 0;";
                TwoChoices map = Tapes.mapOf(text + "full test;");
                TwoChoices twin = Tapes.mapOf(text + "full rehash;");
                int answer = map.put(2, 2);
                due("6: as by rehash", answer, twin.put(2, 2));
                same("6: all is as by rehash", Seen.all(map).replace("count 9 3", "count 9 1"), Seen.all(twin));
                due("6: 4 or REFUSED", answer == 4 || answer == NONE, true);
                helped += answer == 4 ? 1 : 0;
            }
        }
        due("6: rehash helped, but not always", helped > 10 && helped < 90, true);
    }

    // "(.. there is none, if they are the same)"
    private void chainNoOtherBucket() {
        Pairs pairs = new Pairs(3);
        TwoChoices map = Tapes.mapOf("buckets 3;slots 2;stash 0;" + Pairs.TEXT);
        map.put(pairs.key(0, 0), 0);
        map.put(pairs.key(0, 0), 0);
        due("17: none", map.chain(pairs.key(0, 0), NONE), -2);
        due("17: none of it", map.chain(pairs.key(0, 0), 0), -2);
        refusedPut("6: none", map, pairs.key(0, 0), 0);
    }

    // "but the last one's, in which there is an empty place"
    private void chainNoEmptyPlace() {
        Pairs pairs = new Pairs(3);
        TwoChoices map = Tapes.mapOf("buckets 3;slots 1;stash 0;" + Pairs.TEXT);
        map.put(pairs.key(0, 1), 0);
        map.put(pairs.key(1, 2), 0);
        int last = pairs.key(2, 2);
        map.put(last, 0);
        int key = pairs.key(0, 0);
        due("17: all are full", map.chain(key, NONE), -2);
        refusedPut("6: all are full", map, key, 0);
        map.drop(last);
        due("17: one is not", map.chain(key, NONE), 2);
        due("6: by it", map.put(key, 0), 2);
    }

    // "no BUCKET comes twice"
    private void chainNoBucketTwice() {
        Pairs pairs = new Pairs(4);
        TwoChoices map = Tapes.mapOf("buckets 4;slots 1;stash 0;" + Pairs.TEXT);
        map.put(pairs.key(0, 1), 0);
        map.put(pairs.key(1, 2), 0);
        map.put(pairs.key(2, 0), 0);
        int key = pairs.key(0, 0);
        due("17: round and round", map.chain(key, NONE), -2);
        refusedPut("6: round and round", map, key, 0);
        due("17: whatever SECOND has", map.chain(pairs.key(0, 3), NONE), -2);
    }

    // "The fewest"
    private void chainFewest() {
        Pairs pairs = new Pairs(5);
        TwoChoices map = Tapes.mapOf("buckets 5;slots 1;stash 0;" + Pairs.TEXT);
        map.put(pairs.key(0, 2), 0);
        map.put(pairs.key(2, 3), 0);
        map.put(pairs.key(1, 4), 0);
        int key = pairs.key(0, 1);
        due("17: one by SECOND, not two by FIRST", map.chain(key, NONE), 1);
        due("17: that in SECOND", map.chain(key, 0), 10);
        due("6: by it", map.put(key, 0), 2);
        due("6: into SECOND", map.find(key, 0), 1);
    }

    // "that in FIRST ahead of that in SECOND"
    private void chainFirstAheadOfSecond() {
        for (int first = 0; first < 2; first++) {
            Pairs pairs = new Pairs(4);
            TwoChoices map = Tapes.mapOf("buckets 4;slots 1;stash 0;" + Pairs.TEXT);
            map.put(pairs.key(0, 3), 0);
            map.put(pairs.key(1, 2), 0);
            int key = pairs.key(first, 1 - first);
            due("17: that in FIRST", map.chain(key, 0), 10 * first);
            due("6: by it", map.put(key, 0), 2);
            due("6: into FIRST", map.find(key, 0), first);
        }
    }

    // "then the lesser place"
    private void chainLesserPlace() {
        Pairs pairs = new Pairs(4);
        TwoChoices map = Tapes.mapOf("buckets 4;slots 4;stash 0;" + Pairs.TEXT);
        map.put(pairs.key(0, 0), 0);
        map.put(pairs.key(0, 3), 0);
        map.put(pairs.key(0, 1), 0);
        map.put(pairs.key(0, 2), 0);
        int key = pairs.key(0, 0);
        due("17: the lesser place that helps", map.chain(key, 0), 1);
        due("6: by it", map.put(key, 0), 2);
        due("6: into its place", map.find(key, 1), 1);
        due("6: into bucket 3", map.filled(1), 1);
        due("6: and no other", map.at(3, 0, 3), 1);
    }

    // "then that of the next one likewise by its place"
    private void chainNextByItsPlace() {
        Pairs pairs = new Pairs(6);
        TwoChoices map = Tapes.mapOf("buckets 6;slots 2;stash 0;" + Pairs.TEXT);
        map.put(pairs.key(0, 2), 0);
        map.put(pairs.key(0, 1), 0);
        map.put(pairs.key(1, 3), 0);
        map.put(pairs.key(1, 3), 0);
        map.put(pairs.key(2, 5), 0);
        map.put(pairs.key(2, 4), 0);
        int key = pairs.key(0, 0);
        due("17: two", map.chain(key, NONE), 2);
        due("17: the first one's place", map.chain(key, 0), 0);
        due("17: then the next one's", map.chain(key, 1), 20);
        due("6: by it", map.put(key, 0), 2);
        due("6: the last one went to 5", map.at(5, 0, 3), 1);
        due("6: not to 4", map.at(4, 0, 3), NONE);
    }

    // "By it each goes into the place of the next one, the last one into the least empty place there, MOVED 1 more each"
    private void chainIntoTheNextOnesPlace() {
        Pairs pairs = new Pairs(3);
        TwoChoices map = Tapes.mapOf("buckets 3;slots 4;stash 0;" + Pairs.TEXT);
        int[] holes = new int[4];
        for (int place = 0; place < 4; place++) {
            map.put(place == 2 ? pairs.key(0, 1) : pairs.key(0, 0), 2);
            map.put(place == 3 ? pairs.key(1, 2) : pairs.key(1, 1), 3);
            holes[place] = pairs.key(2, 2);
            map.put(holes[place], 4);
        }
        map.drop(holes[1]);
        map.drop(holes[3]);
        int first = map.at(0, 2, 0);
        int last = map.at(1, 3, 0);
        int key = pairs.key(0, 0);
        due("6: by the CHAIN", map.put(key, 9), 2);
        due("6: the new one", map.at(0, 2, 0), key);
        due("6: the first one", map.at(1, 3, 0), first);
        due("6: the last one in the least empty place", map.at(2, 1, 0), last);
        due("6: MOVED of the new one", map.find(key, 4), 0);
        due("6: MOVED of the first one", map.find(first, 4), 1);
        due("6: MOVED of the last one", map.find(last, 4), 1);
        due("6: no other moved", map.count(18), 2);
        due("6: the other hole stays", map.at(2, 3, 0), NONE);
    }

    // The KEY 0 is an ENTRY of a CHAIN like any other
    private void chainOfTheKeyNought() {
        TwoChoices map = Tapes.mapOf("buckets 3;slots 1;stash 0;one 1 0;two 1 1;has 0 7;has 1 0;");
        map.drop(1);
        map.put(2, 0);
        // FIRST and SECOND are, of 0: 0, 1; of 2: 2, 0; of 5: 2, 0.
        due("17: by the KEY 0", map.chain(5, NONE), 1);
        due("17: in SECOND", map.chain(5, 0), 0);
        due("6: by it", map.put(5, 0), 2);
        due("6: 0 MOVED", 10 * map.find(0, 0) + map.find(0, 4), 11);
    }

    // "the first one is in FIRST, or in SECOND": by put(), by test, by settle()
    private void chainByFirstOrSecond() {
        String[] texts = {"stash 0;", "stash 0;kick none;full test;", "stash 1;kick none;"};
        for (String text : texts) {
            for (int way = 0; way < 2; way++) {
                Pairs pairs = new Pairs(3);
                TwoChoices map = Tapes.mapOf("buckets 3;slots 1;" + text + Pairs.TEXT);
                int first = way == 0 ? pairs.key(0, 2) : pairs.key(0, 0);
                int second = way == 0 ? pairs.key(1, 1) : pairs.key(1, 2);
                int key = pairs.key(0, 1);
                map.put(first, 0);
                map.put(second, 0);
                boolean stash = text.startsWith("stash 1");
                due("6: " + text, map.put(key, 0), stash ? 3 : 2);
                due("9: " + text, map.settle(), stash ? 1 : 0);
                due("6: in FIRST, or in SECOND", map.find(key, 0), way);
                due("6: that which was there", map.find(way == 0 ? first : second, 0), 2);
                due("6: the other stays", map.find(way == 0 ? second : first, 0), 1 - way);
            }
        }
    }

    // "each one's other BUCKET (of FIRST and SECOND of its KEY the one it is not in)": FIRST of one that is in SECOND
    private void chainBackToFirst() {
        Pairs pairs = new Pairs(3);
        TwoChoices map = Tapes.mapOf("buckets 3;slots 1;stash 0;" + Pairs.TEXT);
        int gone = pairs.key(0, 0);
        int there = pairs.key(0, 1);
        map.put(gone, 0);
        map.put(there, 0);
        due("15: it is in SECOND", map.find(there, 0), 1);
        due("15: its other BUCKET", map.at(1, 0, 4), 0);
        map.drop(gone);
        int key = pairs.key(1, 1);
        due("17: by it", map.chain(key, 0), 10);
        due("6: by it", map.put(key, 0), 2);
        due("6: back to FIRST", map.find(there, 0), 0);
        due("15: its other BUCKET then", map.at(0, 0, 4), 1);
        due("7: it is found", map.get(there), 0);
    }

    // "DEPTH times at most"; "if that has an empty place, it comes into the least one: all is well"
    private void walkOfDepth() {
        for (int many = 1; many <= 15; many++) {
            for (int depth = 0; depth <= 16; depth++) {
                Pairs pairs = new Pairs(16);
                TwoChoices map = row(many, pairs, "kick walk;seed 17;depth " + depth + ";");
                int key = pairs.key(0, 0);
                if (many > depth) {
                    refusedPut("6: a walk of " + depth + " for " + many, map, key, Drawn.seedAfter(17, depth));
                } else {
                    due("6: a walk of " + many, map.put(key, 9), 2);
                    due("6: so many draws", map.count(25), Drawn.seedAfter(17, many));
                    due("6: MOVED of all", map.count(18), many);
                    due("6: the last one", map.at(many, 0, 1), many - 1);
                    due("6: the new one", map.at(0, 0, 1), 9);
                    due("24: that is no CHAIN", map.count(22), 0);
                }
            }
        }
    }

    // "that is in hand then, its BUCKET the other one": the new one, too, if it is drawn
    private void walkTakesTheNewOneOut() {
        for (int depth = 3; depth <= 4; depth++) {
            Pairs pairs = new Pairs(4);
            TwoChoices map = Tapes.mapOf("buckets 4;slots 1;stash 0;kick walk;seed 5;depth " + depth + ";" + Pairs.TEXT);
            int e = pairs.key(0, 1);
            int f = pairs.key(1, 0);
            int g = pairs.key(2, 3);
            map.put(e, 0);
            map.put(f, 0);
            map.put(g, 0);
            int key = pairs.key(0, 2);
            if (depth == 3) {
                refusedPut("6: not by then", map, key, Drawn.seedAfter(5, 3));
            } else {
                due("6: by then", map.put(key, 0), 2);
                int[] keys = {f, e, key, g};
                int[] others = {1, 0, 0, 2};
                for (int b = 0; b < 4; b++) {
                    due("6: in bucket " + b, map.at(b, 0, 0), keys[b]);
                    due("6: MOVED in bucket " + b, map.at(b, 0, 3), 1);
                    due("15: the other one of bucket " + b, map.at(b, 0, 4), others[b]);
                }
            }
        }
    }

    // "(the same one, if there is no other)"
    private void walkInTheSameBucket() {
        Pairs pairs = new Pairs(2);
        for (int depth = 1; depth <= 16; depth++) {
            TwoChoices map = Tapes.mapOf("buckets 2;slots 2;stash 0;kick walk;seed 5;depth " + depth + ";" + Pairs.TEXT);
            map.put(pairs.key(0, 0), 0);
            map.put(pairs.key(0, 0), 0);
            refusedPut("6: in one bucket", map, pairs.key(0, 0), Drawn.seedAfter(5, depth));
        }
    }

    // "its BUCKET the other one": FIRST of one that was in SECOND; "the least one" of two empty places
    private void walkBackToFirst() {
        Pairs pairs = new Pairs(3);
        TwoChoices map = Tapes.mapOf("buckets 3;slots 1;stash 0;kick walk;depth 1;" + Pairs.TEXT);
        int gone = pairs.key(0, 0);
        int there = pairs.key(0, 1);
        map.put(gone, 0);
        map.put(there, 0);
        map.drop(gone);
        int key = pairs.key(1, 1);
        due("6: by a walk of one", map.put(key, 0), 2);
        due("6: back to FIRST", map.find(there, 0), 0);
        due("6: the new one", map.find(key, 0), 1);
        map = Tapes.mapOf("buckets 3;slots 4;stash 0;kick walk;depth 1;" + Pairs.TEXT);
        int[] holes = new int[4];
        for (int place = 0; place < 4; place++) {
            map.put(pairs.key(0, 2), 0);
            holes[place] = pairs.key(2, 2);
            map.put(holes[place], 0);
        }
        map.drop(holes[3]);
        map.drop(holes[1]);
        due("6: by a walk of one", map.put(pairs.key(0, 0), 0), 2);
        due("6: into the least empty place", map.at(2, 1, 3), 1);
        due("6: not into the other", map.at(2, 3, 3), NONE);
    }

    // "If not by then, all is as it was, but for the SEED", and (c) follows
    private void walkInVainThenStash() {
        Pairs pairs = new Pairs(16);
        TwoChoices map = row(5, pairs, "kick walk;seed 17;depth 4;stash 1;");
        String before = butPuts(map).substring(0, 200);
        int key = pairs.key(0, 0);
        due("6: into the STASH", map.put(key, 0), 3);
        same("6: the others are where they were", butPuts(map).substring(0, 200), before);
        due("6: none moved", map.count(18), 0);
        due("6: four draws", map.count(25), Drawn.seedAfter(17, 4));
        due("6: the new one", map.at(100, 0, 0), key);
        due("6: it is not MOVED", map.at(100, 0, 3), 0);
    }

    /** Where keys come by (a) and (c) alone, one after the other: 10 times the bucket and the place; null if not all do. */
    private static int[] laid(List<Integer> keys, int[] hashes, int buckets, int slots, int stash) {
        int[] fill = new int[buckets];
        int stashed = 0;
        int[] where = new int[keys.size()];
        for (int k = 0; k < where.length; k++) {
            int first = (hashes[0] * keys.get(k) + hashes[1]) % 1009 % buckets;
            int second = (hashes[2] * keys.get(k) + hashes[3]) % 1009 % buckets;
            int b = fill[first] < slots ? first : second;
            if (fill[b] < slots) {
                where[k] = 10 * b + fill[b]++;
            } else if (stashed < stash) {
                where[k] = 1000 + stashed++;
            } else {
                return null;
            }
        }
        return where;
    }

    private void places(String call, TwoChoices map, List<Integer> keys, int[] where) {
        for (int k = 0; k < where.length; k++) {
            int key = keys.get(k);
            due(call + ": " + key, 10 * map.find(key, 0) + map.find(key, 1), where[k]);
        }
    }

    /** The second one put: its VALUE, BORN, MOVED. */
    private void newOne(TwoChoices map, int key, int value) {
        due("6: its VALUE", map.get(key), value);
        due("6: its BORN", map.find(key, 3), 2);
        due("6: its MOVED", map.find(key, 4), 0);
    }

    // "If none does, it is REFUSED", and what its tries moved and chained is as it was
    private void rehashInVain() {
        String[] kicks = {"none", "shortest"};
        for (String kick : kicks) {
            for (int tries = 0; tries <= 4; tries++) {
                for (int seed = 0; seed < 40; seed++) {
                    TwoChoices map = Tapes.mapOf("buckets 2;stash 0;full rehash;kick " + kick + ";tries " + tries + ";seed "
                            + seed + ";" + SAME + "has 0 0;has 1 1;");
                    // Three keys never are in two places.
                    refusedPut("6: " + tries + " tries in vain", map, 4, Drawn.seedAfter(seed, 4 * tries));
                }
            }
        }
    }

    // "Rehash: TRIES times at most: .. If all do, it stays so; else all is as it was, but for the SEED"
    private void rehashAtTheLastTry() {
        int[] seen = new int[6];
        for (int seed = 0; seed < 200; seed++) {
            List<Integer> keys = List.of(0, 2);
            Drawn x = new Drawn(seed);
            int needs = 0;
            int[] where = null;
            int[] hashes = null;
            while (where == null && needs < 5) {
                needs++;
                hashes = new int[] {1 + x.below(1008), x.below(1009), 1 + x.below(1008), x.below(1009)};
                where = laid(keys, hashes, 2, 1, 0);
            }
            seen[needs]++;
            for (int tries = 0; tries <= 4; tries++) {
                TwoChoices map = Tapes.mapOf("buckets 2;stash 0;kick none;full rehash;tries " + tries + ";seed " + seed + ";"
                        + SAME + "has 0 0;");
                if (needs > tries) {
                    refusedPut("6: " + tries + " tries", map, 2, Drawn.seedAfter(seed, 4 * tries));
                } else {
                    due("6: at try " + needs + " of " + tries, map.put(2, 2), 4);
                    due("6: the SEED", map.count(25), Drawn.seedAfter(seed, 4 * needs));
                    due("6: changed once", map.count(16), 1);
                    places("6: laid by try " + needs, map, keys, where);
                    newOne(map, 2, 2);
                    for (int k = 0; k < 4; k++) {
                        due("24: HASHES", map.count(10 + k), hashes[k]);
                    }
                }
            }
        }
        due("at the first, .. the fourth try", seen[1] > 0 && seen[2] > 0 && seen[3] > 0 && seen[4] > 0, true);
    }

    // "all ENTRIES, BUCKET by BUCKET, place by place, then those of the STASH, then the new one COME IN by (a) to (c)
    // into empty BUCKETS, an empty STASH"
    private void rehashInOrder() {
        int helped = 0;
        for (int seed = 0; seed < 100; seed++) {
            // In bucket 0: 3, 6; in 1: 1, 4; in 2: 2; in the stash: 9, 12; the new one: 15.
            TwoChoices map = Tapes.mapOf("buckets 3;slots 2;stash 2;kick none;full rehash;tries 1;one 1 0;two 1 0;seed " + seed
                    + ";has 2 0;has 3 0;has 6 0;has 9 0;has 12 0;has 1 0;has 4 0;");
            List<Integer> keys = List.of(3, 6, 1, 4, 2, 9, 12, 15);
            Drawn x = new Drawn(seed);
            int[] hashes = {1 + x.below(1008), x.below(1009), 1 + x.below(1008), x.below(1009)};
            int[] where = laid(keys, hashes, 3, 2, 2);
            due("6: 15 by a rehash", map.put(15, 0), where == null ? NONE : 4);
            if (where != null) {
                helped++;
                places("6: laid in order", map, keys, where);
            }
        }
        due("6: some rehashes helped", helped > 3, true);
    }

    // "(BORN, MOVED as they were, but for moves by this)"
    private void rehashKeepsBornAndMoved() {
        TwoChoices map = Tapes.mapOf("buckets 3;stash 1;slots 1;one 1 0;two 1 1;has 0 0;has 1 0;has 3 0;");
        due("10: 1 has moved", map.find(1, 4), 1);
        due("10: by hand", map.rehash(1, 1, 1, 2), true);
        due("10: MOVED as it was", map.find(1, 4), 1);
        due("10: BORN as it was", map.find(1, 3), 2);
        due("10: BORN of the last", map.find(3, 3), 3);
        due("10: PUTS are not counted", map.count(14), 3);
        Pairs pairs = new Pairs(3);
        int early = pairs.key(0, 1);
        int late = pairs.key(0, 0);
        map = Tapes.mapOf("buckets 3;stash 1;slots 1;one 1 0;two 1 0;");
        map.put(early, 0);
        due("10: no other bucket by these", map.put(late, 0), 3);
        due("10: but by those", map.rehash(1, 0, 236, 0), true);
        due("10: a move by this", map.find(early, 4), 1);
        due("10: its CHAIN is counted", map.count(22), 1);
        due("10: the later one is in its place", 10 * map.find(late, 0) + map.find(late, 4), 0);
        due("10: all COME IN once more", map.rehash(1, 0, 236, 0), true);
        due("10: by no further move", map.find(early, 4), 1);
    }

    // "Grow: as long as BUCKETS are 8 or fewer: twice as many"
    private void growTillEight() {
        for (int buckets = 1; buckets <= 16; buckets++) {
            TwoChoices map = Tapes.mapOf("stash 0;kick none;full grow;" + SAME + "has 0 0;buckets " + buckets + ";seed 7;");
            if (buckets <= 8) {
                due("6: by growth of " + buckets, map.put(buckets, 9), 5);
                newOne(map, buckets, 9);
                due("6: twice as many", map.count(1), 2 * buckets);
                due("6: doubled once", map.count(17), 1);
                due("6: laid by the same HASHES", map.find(buckets, 0), buckets);
                due("6: HASHES were not changed", map.count(16), 0);
                due("6: nothing was drawn", map.count(25), 7);
            } else {
                refusedPut("6: no growth of " + buckets, map, buckets, 7);
            }
        }
    }

    // "if all do, it stays so; else twice as many again"
    private void growTwiceAsManyAgain() {
        for (int buckets = 1; buckets <= 8; buckets++) {
            int times = 1;
            for (int key = buckets; buckets << times <= 16; key *= 2) {
                TwoChoices map = Tapes.mapOf("stash 0;kick none;full grow;" + SAME + "has 0 0;buckets " + buckets + ";");
                due("6: " + buckets + " grow for " + key, map.put(key, 1), 5);
                due("6: so many buckets", map.count(1), buckets << times);
                due("6: doubled so often", map.count(17), times);
                due("6: its bucket", map.find(key, 0), key);
                times++;
            }
        }
    }

    // "if it never does, all is as it was, but for the SEED, and it is REFUSED"
    private void growNever() {
        for (int buckets = 1; buckets <= 16; buckets++) {
            TwoChoices map = Tapes.mapOf("stash 0;kick none;full grow;" + SAME + "has 0 0;seed 7;buckets " + buckets + ";");
            // A multiple of all numbers of buckets that there could be: it is always with 0.
            int key = buckets;
            while (key <= 16) {
                key *= 2;
            }
            refusedPut("6: never of " + buckets, map, key, 7);
        }
    }

    // "but for the SEED": each growth that is tried draws its walks
    private void growNeverButForTheSeed() {
        int[] growths = {4, 3, 2, 2, 1, 1, 1, 1, 0};
        for (int buckets = 1; buckets <= 9; buckets++) {
            TwoChoices map = Tapes.mapOf("stash 0;kick walk;depth 3;full grow;" + SAME + "has 0 0;seed 7;buckets " + buckets
                    + ";");
            int key = buckets;
            while (key <= 16) {
                key *= 2;
            }
            refusedPut("6: walks of " + buckets, map, key, Drawn.seedAfter(7, 3 + 3 * growths[buckets - 1]));
        }
    }

    // Promise 10: "or a number can't be"
    private void rehashByHandNumbers() {
        TwoChoices map = Tapes.mapOf("seed 9;kick walk;has 1 1;has 2 2;");
        String before = Seen.all(map);
        int[][] wrong = {
            {0, 0, 1, 0}, {1009, 0, 1, 0}, {1, -1, 1, 0}, {1, 1009, 1, 0}, {1, 0, 0, 0}, {1, 0, 1009, 0}, {1, 0, 1, -1},
            {1, 0, 1, 1009}, {LEAST, 0, 1, 0}, {1, MOST, 1, 0}, {1, 0, MOST, 0}, {1, 0, 1, LEAST}, {-1, 0, 1, 0}
        };
        for (int[] w : wrong) {
            due("10: rehash(" + w[0] + ", " + w[1] + ", " + w[2] + ", " + w[3] + ")", map.rehash(w[0], w[1], w[2], w[3]),
                    false);
            same("10: all is as it was", Seen.all(map), before);
        }
        due("10: the least numbers", map.rehash(1, 0, 1, 0), true);
        due("10: the greatest numbers", map.rehash(1008, 1008, 1008, 1008), true);
        due("24: changed twice", map.count(16), 2);
    }

    // Promise 10: "False, and all is as it was, but for the SEED: they don't all"
    private void rehashByHandNotAll() {
        TwoChoices map = Tapes.mapOf("seed 9;kick walk;depth 5;buckets 4;stash 1;" + SAME + "has 0 0;has 1 0;has 2 0;has 3 0;");
        String before = Seen.butTheSeed(map);
        // All are in bucket 0 then: one of them, one in the stash, the third not.
        due("10: not all", map.rehash(4, 0, 4, 0), false);
        same("10: all is as it was", Seen.butTheSeed(map), before);
        due("10: two walks in vain", map.count(25), Drawn.seedAfter(9, 10));
        map = Tapes.mapOf("seed 9;kick none;buckets 4;stash 3;" + SAME + "has 0 0;has 1 0;has 2 0;has 3 0;");
        due("10: the last one is the last of the STASH", map.rehash(4, 0, 4, 0), true);
        due("10: a full STASH", map.count(4), 3);
        due("10: in order", 100 * map.at(100, 0, 0) + 10 * map.at(100, 1, 0) + map.at(100, 2, 0), 123);
    }

    // Promise 10, of an empty map: none is left out
    private void rehashByHandOfNone() {
        TwoChoices map = new TwoChoices();
        due("10: none", map.rehash(1, 2, 3, 4), true);
        int[] dues = {1, 2, 3, 4};
        for (int k = 0; k < 4; k++) {
            due("10: HASHES", map.count(10 + k), dues[k]);
        }
    }

    // Promise 11, of an empty map: the CORE is empty
    private void batchOfNone() {
        TwoChoices map = new TwoChoices();
        String before = Seen.all(map);
        due("11: none", map.batch(), true);
        same("11: nothing changes", Seen.all(map), before);
    }

    // "those that are PEELED into their BUCKETS, place by place as they were"
    private void batchOfPeeled() {
        Pairs pairs = new Pairs(4);
        TwoChoices map = Tapes.mapOf("buckets 4;slots 2;stash 0;kick none;" + Pairs.TEXT);
        int a = pairs.key(1, 0);
        int b = pairs.key(1, 0);
        int c = pairs.key(1, 2);
        map.put(b, 0);
        map.put(a, 0);
        map.put(c, 0);
        due("12: all are PEELED", map.peel(NONE, 0), 3);
        due("11: all of the CORE, which is empty", map.batch(), true);
        due("11: the first place", map.at(0, 0, 0), Math.min(a, b));
        due("11: the second place", map.at(0, 1, 0), Math.max(a, b));
        due("11: then the least such BUCKET", map.find(c, 0), 1);
        due("11: MOVED", map.count(18), 0);
        due("11: BORN", map.find(b, 3), 1);
    }

    // "if not all do, all is as it was, but for the SEED"
    private void batchNotAllOfTheCore() {
        // FIRST and SECOND are, of 63: 3, 0; of 45: 3, 2; of 14: 2, 1; of 54: 0, 1: a ring, none is peeled.
        String text = "buckets 6;slots 1;depth 1;seed 3;one 1 0;two 100 0;has 63 0;has 45 1;has 14 2;has 54 3;";
        TwoChoices map = Tapes.mapOf(text + "stash 0;kick walk;");
        String before = Seen.butTheSeed(map);
        due("11: 63 has no place", map.batch(), false);
        same("11: all is as it was", Seen.butTheSeed(map), before);
        due("11: one draw", map.count(25), Drawn.seedAfter(3, 1));
        map = Tapes.mapOf(text + "stash 1;kick none;");
        due("11: but for the STASH", map.batch(), true);
        due("11: it is in it", map.find(63, 0), 100);
    }

    // "a BUCKET that is FIRST or SECOND of SLOTS or fewer of those left, but of one at least"
    private void peelSlotsOrFewer() {
        for (int slots = 1; slots <= 4; slots++) {
            Pairs pairs = new Pairs(2);
            TwoChoices map = Tapes.mapOf("buckets 2;stash 4;kick none;slots " + slots + ";" + Pairs.TEXT);
            due("12: none of none", map.peel(NONE, 0), 0);
            for (int many = 1; many <= slots; many++) {
                map.put(pairs.key(0, 0), 0);
                due("12: " + many + " of " + slots, map.peel(NONE, 0), many);
                due("12: belongs to 0", map.peel(many - 1, 1), 0);
            }
            map.put(pairs.key(0, 0), 0);
            due("12: one more than SLOTS, in the STASH", map.count(4), 1);
            due("12: none then", map.peel(NONE, 0), 0);
            due("12: no first one", map.peel(0, 0), -2);
        }
    }

    // "the least such BUCKET", each time anew
    private void peelLeastBucketAgain() {
        Pairs pairs = new Pairs(4);
        int a = pairs.key(0, 1);
        int b = pairs.key(1, 0);
        int c = pairs.key(3, 0);
        TwoChoices map = Tapes.mapOf("buckets 4;slots 2;stash 4;kick none;" + Pairs.TEXT);
        int d = pairs.key(1, 1);
        map.put(a, 0);
        map.put(b, 0);
        map.put(c, 0);
        map.put(d, 0);
        // Of 0: a, b, c; of 1: a, b, d; of 3: c. So c belongs to 3, then a and b to 0, then d to 1.
        int[] keys = {c, Math.min(a, b), Math.max(a, b), d};
        int[] homes = {3, 0, 0, 1};
        due("12: all", map.peel(NONE, 0), 4);
        for (int k = 0; k < 4; k++) {
            due("12: peel(" + k + ", 0)", map.peel(k, 0), keys[k]);
            due("12: peel(" + k + ", 1)", map.peel(k, 1), homes[k]);
        }
    }

    // "those are PEELED, by KEYS rising"
    private void peelByKeysRising() {
        TwoChoices map = Tapes.mapOf("buckets 2;slots 4;one 1 0;two 1 0;has 8 0;has 2 0;has 6 0;has 4 0;");
        for (int k = 0; k < 4; k++) {
            due("12: rising", map.peel(k, 0), 2 * k + 2);
        }
    }

    // "as long as there is a BUCKET": up to all of them
    private void peelEveryBucket() {
        for (int buckets = 1; buckets <= 16; buckets++) {
            TwoChoices map = Tapes.mapOf("stash 0;buckets " + buckets + ";" + SAME);
            for (int key = buckets - 1; key >= 0; key--) {
                map.put(key, 0);
            }
            due("12: all of " + buckets, map.peel(NONE, 0), buckets);
            for (int k = 0; k < buckets; k++) {
                due("12: from the least on", 100 * map.peel(k, 0) + map.peel(k, 1), 101 * k);
            }
        }
    }

    // "CORE: those that are left then": they are not PEELED, however often it is asked
    private void peelTwiceWithACore() {
        TwoChoices map = Tapes.mapOf("buckets 2;stash 2;" + SAME + "has 0 0;has 2 0;has 1 0;");
        for (int turn = 0; turn < 3; turn++) {
            due("12: one is PEELED", map.peel(NONE, 0), 1);
            due("12: that of bucket 1", 10 * map.peel(0, 0) + map.peel(0, 1), 11);
        }
        map.drop(2);
        due("12: no CORE is left", map.peel(NONE, 0), 2);
    }

    // Promise 12: "-2: not so many, another what"
    private void peelNotSoMany() {
        TwoChoices map = Tapes.mapOf("has 1 0;has 2 0;");
        int many = map.peel(NONE, 0);
        due("12: two", many, 2);
        int[][] wrong = {
            {2, 0}, {2, 1}, {-2, 0}, {-2, 1}, {NONE, 1}, {NONE, -1}, {NONE, 2}, {0, 2}, {0, -1}, {1, 2}, {MOST, 0}, {LEAST, 0},
            {0, MOST}, {0, LEAST}, {NONE, MOST}
        };
        for (int[] w : wrong) {
            due("12: peel(" + w[0] + ", " + w[1] + ")", map.peel(w[0], w[1]), -2);
        }
        due("12: the last one", map.peel(1, 0) >= 0 && map.peel(1, 1) >= 0, true);
        due("12: none of none", new TwoChoices().peel(NONE, 0), 0);
        due("12: nothing of none", new TwoChoices().peel(0, 0), -2);
    }

    // Promise 8: "NONE: there is no ENTRY of it, no such KEY"
    private void dropOfNone() {
        TwoChoices map = Tapes.mapOf("stash 2;kick none;slots 1;buckets 1;has 0 5;has 9 6;has 999 0;");
        String before = Seen.all(map);
        int[] wrong = {1, 998, -1, 1000, LEAST, MOST};
        for (int key : wrong) {
            due("8: drop(" + key + ")", map.drop(key), NONE);
            same("8: nothing changes", Seen.all(map), before);
        }
        due("8: drop(0)", map.drop(0), 5);
        due("8: drop(999)", map.drop(999), 0);
        due("8: once", map.drop(0), NONE);
        due("8: of none at all", new TwoChoices().drop(0), NONE);
    }

    // "(of the STASH: those behind it come up)"
    private void dropOutOfTheStash() {
        int[][] left = {{2, 3, 4}, {1, 3, 4}, {1, 2, 4}, {1, 2, 3}};
        for (int k = 0; k < 4; k++) {
            TwoChoices map = Tapes.mapOf("buckets 1;stash 4;kick none;" + SAME + "has 0 0;has 1 0;has 2 0;has 3 0;has 4 0;");
            due("8: one of the STASH", map.drop(k + 1), 0);
            due("8: three are left", map.count(4), 3);
            for (int place = 0; place < 3; place++) {
                due("8: at(100, " + place + ", 0)", map.at(100, place, 0), left[k][place]);
                due("8: that is no move", map.at(100, place, 3), 0);
            }
            due("8: none behind them", map.at(100, 3, 0), NONE);
            due("8: the bucket's one stays", map.find(0, 0), 0);
            due("8: there is a place in the STASH again", map.put(7, 0), 3);
        }
    }

    // "Then those of the STASH, one by one in their order: one that has an empty place in FIRST .. comes there, MOVED 1 more"
    private void dropLetsTheFirstIn() {
        Pairs pairs = new Pairs(2);
        TwoChoices map = Tapes.mapOf("buckets 2;slots 2;stash 3;kick none;" + Pairs.TEXT);
        int one = pairs.key(0, 0);
        map.put(one, 11);
        map.put(pairs.key(0, 0), 0);
        map.put(pairs.key(1, 1), 0);
        map.put(pairs.key(1, 1), 0);
        int other = pairs.key(1, 1);
        int early = pairs.key(0, 0);
        int late = pairs.key(0, 1);
        map.put(other, 0);
        map.put(early, 0);
        map.put(late, 0);
        due("8: three in the STASH", map.count(4), 3);
        due("8: its value", map.drop(one), 11);
        due("8: the first that can", 10 * map.find(early, 0) + map.find(early, 1), 0);
        due("8: MOVED 1 more", map.find(early, 4), 1);
        due("8: that ahead of it stays", map.find(other, 0) + map.find(other, 1), 100);
        due("8: that behind it comes up", map.find(late, 0) + map.find(late, 1), 101);
        due("8: no other moved", map.count(18), 1);
    }

    // "else in SECOND"
    private void dropLetsOneInBySecond() {
        Pairs pairs = new Pairs(2);
        TwoChoices map = Tapes.mapOf("buckets 2;slots 1;stash 1;kick none;" + Pairs.TEXT);
        map.put(pairs.key(0, 0), 0);
        int one = pairs.key(1, 1);
        map.put(one, 0);
        int key = pairs.key(0, 1);
        due("8: into the STASH", map.put(key, 0), 3);
        map.drop(one);
        due("8: into SECOND", map.find(key, 0), 1);
        due("8: MOVED 1 more", map.find(key, 4), 1);
        due("8: the STASH is empty", map.count(4), 0);
    }

    // A drop does not displace: one that has no empty place stays, even if a CHAIN would help
    private void dropLetsNoneInElsewhere() {
        Pairs pairs = new Pairs(3);
        TwoChoices map = Tapes.mapOf("buckets 3;slots 1;stash 1;kick none;" + Pairs.TEXT);
        map.put(pairs.key(0, 1), 0);
        int one = pairs.key(1, 1);
        map.put(one, 0);
        int key = pairs.key(0, 0);
        map.put(key, 0);
        map.drop(one);
        due("8: it stays", map.find(key, 0), 100);
        due("17: there is a CHAIN", map.chain(key, NONE), 1);
        due("9: settle() takes it", map.settle(), 1);
    }

    // "its ENTRY goes": it does not come back when all are laid anew
    private void dropIsForGood() {
        int[] keys = {0, 1, 4};
        for (int key : keys) {
            TwoChoices map = Tapes.mapOf("buckets 4;stash 1;full grow;" + SAME + "has 0 0;has 1 0;has 4 0;");
            map.drop(key);
            due("8: two are left", map.count(0), 2);
            due("10: by hand", map.rehash(1, 1, 1, 1), true);
            due("8: two all the same", map.count(0), 2);
            due("11: a BATCH", map.batch(), true);
            due("8: two all the same", map.count(0), 2);
            due("8: none of it", map.find(key, 0), NONE);
        }
    }

    // "or else by a CHAIN of DEPTH or fewer"
    private void settleOfDepth() {
        for (int many = 1; many <= 15; many++) {
            for (int depth = 0; depth <= 16; depth++) {
                Pairs pairs = new Pairs(16);
                TwoChoices map = row(many, pairs, "kick none;stash 1;depth " + depth + ";");
                int key = pairs.key(0, 0);
                due("9: in the STASH", map.put(key, 7), 3);
                String before = Seen.all(map);
                due("9: " + many + " of DEPTH " + depth, map.settle(), many > depth ? 0 : 1);
                if (many > depth) {
                    same("9: nothing changes", Seen.all(map), before);
                } else {
                    due("9: it left the STASH", map.at(0, 0, 0), key);
                    due("9: all of the CHAIN and it MOVED", map.count(18), many + 1);
                    due("24: the longest CHAIN", map.count(22), many);
                }
            }
        }
    }

    // "(whatever KICK is)"
    private void settleWhateverKickIs() {
        String[] kicks = {"none", "walk", "shortest"};
        for (String kick : kicks) {
            Pairs pairs = new Pairs(3);
            TwoChoices map = Tapes.mapOf("buckets 3;slots 1;stash 1;depth 1;seed 4;kick " + kick + ";" + Pairs.TEXT);
            int one = pairs.key(1, 1);
            int key = pairs.key(0, 0);
            map.put(pairs.key(0, 1), 0);
            map.put(one, 0);
            due("9: in the STASH", map.put(key, 0), 3);
            map.drop(one);
            int seed = map.count(25);
            due("9: " + kick, map.settle(), 1);
            due("9: it is there", map.find(key, 0), 0);
            due("9: nothing is drawn", map.count(25), seed);
        }
    }

    // Promise 9, of an empty STASH
    private void settleOfAnEmptyStash() {
        TwoChoices map = new TwoChoices();
        due("9: none", map.settle(), 0);
        map.put(1, 1);
        String before = Seen.all(map);
        due("9: none in it", map.settle(), 0);
        same("9: nothing changes", Seen.all(map), before);
    }

    // "those of the STASH, one by one in their order"; "how many left the STASH"
    private void settleOneByOne() {
        TwoChoices map = Tapes.mapOf("buckets 8;stash 4;kick none;slots 1;one 1 0;two 1 1;"
                + "has 0 0;has 1 1;has 4 4;has 5 5;has 8 8;has 16 6;has 12 2;has 20 0;");
        // 8 and 16 (of 0 and 1), 12 and 20 (of 4 and 5) are in the STASH; one of each two can leave.
        due("9: four in the STASH", map.count(4), 4);
        due("9: two left", map.settle(), 2);
        due("9: the earlier ones", 10 * map.find(8, 0) + map.find(12, 0), 15);
        due("9: 16 comes up", map.at(100, 0, 0), 16);
        due("9: 20 comes up", map.at(100, 1, 0), 20);
        due("9: no third one", map.at(100, 2, 0), NONE);
        due("9: no more can", map.settle(), 0);
    }

    /** LOAD by hand: how many are refused. */
    private static int loadByHand(TwoChoices map, int seed, int n) {
        Drawn x = new Drawn(seed);
        int refused = 0;
        for (int k = 0; k < n; k++) {
            boolean drops = x.below(4) == 0;
            int key = x.below(1000);
            if (drops) {
                map.drop(key);
            } else {
                refused += map.put(key, x.below(1000)) < 0 ? 1 : 0;
            }
        }
        return refused;
    }

    // Promise 13: "LOAD, n times, 1 .. 12: how many PUTS were REFUSED"
    private void loadOfOneToTwelve() {
        String[] texts = {"", "buckets 1;slots 1;stash 0;", "kick walk;full grow;buckets 2;slots 1;", "full rehash;kick walk;"};
        for (String text : texts) {
            for (int n = 1; n <= 12; n++) {
                TwoChoices map = Tapes.mapOf(text);
                TwoChoices twin = Tapes.mapOf(text);
                due("13: load(5, " + n + ")", map.load(5, n), loadByHand(twin, 5, n));
                same("13: as by hand", Seen.all(map), Seen.all(twin));
            }
        }
        TwoChoices map = Tapes.mapOf("buckets 1;slots 1;stash 0;has 0 0;");
        map.put(1, 1);
        due("13: REFUSED in this load alone", map.load(5, 12), map.count(15) - 1);
        due("13: some were", map.count(15) > 2, true);
    }

    // Promise 13: "NONE, and nothing happens: another n"
    private void loadOfAnotherN() {
        TwoChoices map = Tapes.mapOf("kick walk;seed 3;has 1 1;");
        String before = Seen.all(map);
        int[] wrong = {0, 13, -1, LEAST, MOST};
        for (int n : wrong) {
            due("13: load(5, " + n + ")", map.load(5, n), NONE);
            same("13: nothing happens", Seen.all(map), before);
        }
    }

    // "LOAD by a SEED of its own, x, DRAWN likewise by x": any number of 32 bits; "(The map's SEED goes on by its own.)"
    private void loadByAnySeed() {
        int[] seeds = {LEAST, LEAST + 1, -1, 0, 1, 65535, 65536, MOST, 0x80000000 ^ 12345, -987654321};
        for (int seed : seeds) {
            List<TwoChoices> maps = new ArrayList<>();
            for (int k = 0; k < 2; k++) {
                maps.add(Tapes.mapOf("kick walk;full rehash;buckets 3;slots 1;stash 1;seed 44;"));
            }
            due("13: load(" + seed + ", 12)", maps.get(0).load(seed, 12), loadByHand(maps.get(1), seed, 12));
            same("13: as by hand", Seen.all(maps.get(0)), Seen.all(maps.get(1)));
        }
    }

    // "0: DROP (if there is one of it)"
    private void loadDropsIfThereIsOne() {
        int seed = 0;
        while (new Drawn(seed).below(4) != 0) {
            seed++;
        }
        Drawn x = new Drawn(seed);
        x.below(4);
        int key = x.below(1000);
        TwoChoices map = new TwoChoices();
        String before = Seen.all(map);
        due("13: none of it", map.load(seed, 1), 0);
        same("13: nothing changes", Seen.all(map), before);
        map.put(key, 5);
        due("13: one of it", map.load(seed, 1), 0);
        due("13: it is gone", map.count(0), 0);
        due("13: one PUT alone", map.count(14), 1);
    }
}
