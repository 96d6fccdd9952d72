/** Every promise of the document by itself: ordinary calls, the edges it names, wrong arguments. */
public final class PromisesTest {
    private static final int NONE = TwoChoices.NONE;
    private static final int LEAST = Integer.MIN_VALUE;
    private static final int MOST = Integer.MAX_VALUE;

    /** FIRST is the key, SECOND the one behind it, both modulo the buckets. */
    private static final String STEPS = "slots 1;one 1 0;two 1 1;";

    /** FIRST and SECOND are both the key modulo the buckets. */
    private static final String SAME = "slots 1;one 1 0;two 1 0;";

    private final Checks checks = new Checks();

    public static void main(String[] args) {
        PromisesTest test = new PromisesTest();
        test.newObject();
        test.tape();
        test.texts();
        test.faults();
        test.tapeEnds();
        test.textKeepsAllElse();
        test.puts();
        test.chains();
        test.chainsOfSeveral();
        test.walks();
        test.fullRefuse();
        test.fullRehash();
        test.fullGrow();
        test.fullTest();
        test.gets();
        test.drops();
        test.settles();
        test.rehashes();
        test.peelsAndBatches();
        test.batchThatFails();
        test.loads();
        test.finds();
        test.places();
        test.hashes();
        test.woulds();
        test.parts();
        test.arranged();
        test.leasts();
        test.mostEntries();
        test.keys();
        test.counts();
        test.filledOnes();
        test.restlessOnes();
        test.whichOnes();
        test.trieds();
        test.triedMoves();
        test.images();
        test.checks.end();
    }

    private void due(String call, long got, long want) {
        checks.due(call, got, want);
    }

    private void due(String call, boolean got, boolean want) {
        checks.due(call, got, want);
    }

    /** The seed behind so many draws. */
    private static int seedAfter(int seed, int draws) {
        int x = seed;
        for (int k = 0; k < draws; k++) {
            x = x * 1103515245 + 12345;
        }
        return x;
    }

    private static int drawn(int seed, int draws, int below) {
        return (seedAfter(seed, draws) >>> 16) % below;
    }

    // Promise 1
    private void newObject() {
        TwoChoices map = new TwoChoices();
        int[] counts = {0, 4, 2, 2, 0, 8, 6, 2, 2, 0, 3, 1, 5, 2, 0, 0, 0, 0, 0, 0, 0, 0, 0, 4, 0, 0, 0};
        for (int what = 0; what < counts.length; what++) {
            due("1: count(" + what + ")", map.count(what), counts[what]);
        }
        due("1: fault(0)", map.fault(0), 0);
        due("1: fault(1)", map.fault(1), NONE);
        due("1: lost(0)", map.lost(0), NONE);
        due("1: again(0)", map.again(0), false);
        due("1: key(0)", map.key(0, false), NONE);
        due("1: two objects share nothing", new TwoChoices().put(1, 1) + map.count(0), 1);
    }

    // Promises 2 and 3
    private void tape() {
        TwoChoices map = new TwoChoices();
        for (int k = 1; k <= 20; k++) {
            due("2: feed", map.feed(k, LEAST, MOST, NONE, 0), 20 * k);
        }
        due("2: feed beyond 400", map.feed(0, 0, 0, 0, 0), NONE);
        due("2: nothing came", map.count(26), 400);
        due("3: end(401)", map.end(401), NONE);
        due("3: end(-1)", map.end(NONE), NONE);
        due("3: end(least)", map.end(LEAST), NONE);
        due("3: end(most)", map.end(MOST), NONE);
        due("3: nothing went", map.count(26), 400);
        due("3: end(381)", map.end(381), 381);
        due("2: feed onto 381", map.feed(0, 0, 0, 0, 0), NONE);
        due("3: end(380)", map.end(380), 380);
        due("2: feed onto 380", map.feed(0, 0, 0, 0, 0), 400);
        due("3: end(0)", map.end(0), 0);
        due("3: end(1) of none", map.end(1), NONE);
        int[] n = Tapes.numbers("has 12 345;slots 3;", 0);
        map.feed(n[0], n[1], n[2], n[3], n[4]);
        due("2: the highest byte first", map.text(), 1);
        due("2: its value", map.get(12), 345);
        due("2: its setting", map.count(2), 3);
    }

    // Promise 4
    private void texts() {
        TwoChoices map = new TwoChoices();
        String text = "buckets 16;slots4;stash 0;\ndepth 16 ; tries 4;seed 9999;kick none;full test;"
                + "one 1008 1008;two 0001 0000;has 999 999;has 0 0;";
        due("4: all told", Tapes.tell(map, text), 2);
        int[] counts = {2, 16, 4, 0, 0, 62, 16, 4, 0, 3, 1008, 1008, 1, 0, 2, 0};
        for (int what = 0; what < counts.length; what++) {
            due("4: count(" + what + ")", map.count(what), counts[what]);
        }
        due("4: seed", map.count(25), 9999);
        due("4: the tape is empty", map.count(26), 0);
        due("4: later ones strike", Tapes.tell(map, "kick none;kick walk;full grow;full rehash;"), 0);
        due("4: kick", map.count(8), 1);
        due("4: full", map.count(9), 1);
        due("4: what is not told is as at first", map.count(1), 4);
        map.put(1, 1);
        map.get(1);
        due("4: an empty text", map.text(), 0);
        due("4: puts are 0", map.count(14), 0);
        due("4: reads are 0", map.count(20), 0);
        due("4: kick as at first", map.count(8), 2);
        map = Tapes.mapOf("buckets 3;" + STEPS + "has 0 5;has 1 6;has 3 7;");
        due("4: puts of has", map.count(14), 3);
        due("4: born of has", map.find(3, 3), 3);
        due("4: a chain of has", map.count(22), 1);
        due("4: moves of has", map.count(18), 1);
    }

    private void fault(String text, int fault, int place) {
        TwoChoices map = new TwoChoices();
        int answer = Tapes.tell(map, text);
        due("4: text() of " + text, answer < 0, fault != 0);
        due("5: fault(0) of " + text, map.fault(0), fault);
        due("5: fault(1) of " + text, map.fault(1), place);
    }

    // Promises 4 and 5
    private void faults() {
        fault("", 0, NONE);
        fault(" \n ", 0, NONE);
        fault("slots2;has1 2;", 0, NONE);
        fault("slots 2", 1, 7);
        fault("slots 2 \n", 1, 9);
        fault("slots", 1, 5);
        fault(";", 1, 0);
        fault("slots 2;;", 1, 8);
        fault("slots\t2;", 1, 5);
        fault("Slots 2;", 1, 0);
        fault("slot 2;", 1, 0);
        fault("slotss 2;", 1, 0);
        fault("slots two;", 1, 6);
        fault("2;", 1, 0);
        fault("none;", 1, 0);
        fault("has 1;", 1, 5);
        fault("one 1 2 3;", 1, 8);
        fault("has 1;x", 1, 5);
        fault("has;x", 1, 3);
        fault("one 1;x", 1, 5);
        fault("two;x", 1, 3);
        fault("slots;x", 1, 5);
        fault("kick;x", 1, 4);
        fault("slotsz 2;", 1, 0);
        fault("slotsX 2;", 1, 5);
        fault("kick walks;", 1, 5);
        fault("kick test;", 1, 5);
        fault("full none;", 1, 5);
        fault("full 1;", 1, 5);
        fault("slots 00001;", 1, 6);
        fault("slots 0001;", 0, NONE);
        fault("seed 10000;", 1, 5);
        fault("seed 9999;seed 0;", 0, NONE);
        fault("slots " + (char) 178 + ";", 1, 6);
        fault("slots 9;has 1 1;has 1 1;x", 1, 24);
        fault("buckets 0;", 2, 8);
        fault("buckets 17;", 2, 8);
        fault("slots 0;", 2, 6);
        fault("slots 5;", 2, 6);
        fault("stash 5;", 2, 6);
        fault("depth 17;", 2, 6);
        fault("tries 5;", 2, 6);
        fault("one 0 1;", 2, 4);
        fault("one 1009 1;", 2, 4);
        fault("two 1 1009;", 2, 6);
        fault("slots 9;slots 2;", 2, 6);
        fault("has 1000 0;", 2, 4);
        fault("has 0 1000;", 2, 6);
        fault("has 1 1;has 1 2;", 3, 12);
        fault("has 1 1;has 1 1000;", 3, 12);
        fault("slots 9;has 1 1;has 1 1;", 2, 6);
        fault("has 1 1;has 1 1;slots 9;", 3, 12);
        fault("slots 1;stash 0;buckets 1;has 0 0;has 1 1;", 4, 38);
        fault("has 0 0;has 1 1;has 2 2;slots 1;stash 1;buckets 1;", 4, 20);
        TwoChoices map = new TwoChoices();
        Tapes.tell(map, "x");
        due("5: fault(2)", map.fault(2), NONE);
        due("5: fault(-1)", map.fault(NONE), NONE);
        map.text();
        due("5: of the latest text()", map.fault(0), 0);
        due("5: its place", map.fault(1), NONE);
    }

    /** What was cut off by end() does not count, and a tape may be full to its last byte. */
    private void tapeEnds() {
        cutFault("full testing;", 9, 1, 9);
        cutFault("slots 23;", 7, 1, 7);
        cutFault("slots 2;", 7, 1, 7);
        cutFault("slots 2;x", 8, 0, NONE);
        cutFault("slots 2;   x", 10, 0, NONE);
        cutFault("stash 12345;", 10, 1, 10);
        fault("z".repeat(400), 1, 0);
        fault("9".repeat(400), 1, 0);
        fault(" ".repeat(400), 0, NONE);
        fault(" ".repeat(396) + "slot", 1, 396);
        fault(" ".repeat(395) + "slots", 1, 400);
        fault(" ".repeat(393) + "slots 2", 1, 400);
        fault(" ".repeat(392) + "slots 2;", 0, NONE);
        fault("has0 0;".repeat(57), 3, 10);
        fault("has0 0;".repeat(57) + "x", 1, 399);
        StringBuilder most = new StringBuilder("buckets 16;slots 4;");
        for (int key = 0; key < 48; key++) {
            most.append("has").append(key).append(' ').append(key % 10).append(';');
        }
        TwoChoices map = Tapes.mapOf(most.toString());
        due("4: 48 of has", map.count(0), 48);
        due("4: the last one's value", map.get(47), 7);
    }

    private void cutFault(String bytes, int n, int fault, int place) {
        TwoChoices map = new TwoChoices();
        Tapes.lay(map, bytes);
        map.end(n);
        map.text();
        due("5: fault(0) of " + n + " of " + bytes, map.fault(0), fault);
        due("5: fault(1) of " + n + " of " + bytes, map.fault(1), place);
    }

    // Promise 4
    private void textKeepsAllElse() {
        TwoChoices map = Tapes.mapOf("seed 5;slots 1;has 1 2;");
        map.image(1);
        due("4: a fault", Tapes.tell(map, "kick none;slots 9;"), NONE);
        due("4: the tape is empty all the same", map.count(26), 0);
        due("4: slots stay", map.count(2), 1);
        due("4: kick stays", map.count(8), 2);
        due("4: entries stay", map.get(1), 2);
        due("4: a fault 4", Tapes.tell(map, "full rehash;stash 0;buckets 1;slots 1;has 5 5;has 6 6;"), NONE);
        due("4: the seed stays", map.count(25), 5);
        due("4: puts stay", map.count(14), 1);
        due("4: entries stay", map.key(0, false), 1);
        Tapes.tell(map, "slots 3;");
        due("4: images stay", map.again(1), true);
        due("4: what the image had", map.count(2), 1);
    }

    // Promise 6
    private void puts() {
        TwoChoices map = Tapes.mapOf("buckets 4;stash 1;kick none;" + STEPS);
        due("6: into FIRST", map.put(0, 10), 1);
        due("6: its bucket", map.find(0, 0), 0);
        due("6: into SECOND", map.put(4, 14), 1);
        due("6: its bucket", map.find(4, 0), 1);
        due("6: into the stash", map.put(8, 18), 3);
        due("6: its bucket", map.find(8, 0), 100);
        due("6: refused", map.put(12, 1), NONE);
        due("6: refused is counted", map.count(15), 1);
        due("6: put of it is counted", map.count(14), 4);
        due("6: a further value", map.put(8, 19), 0);
        due("6: the value", map.get(8), 19);
        due("6: that is a put, too", map.count(14), 5);
        due("6: born counts all of them", map.put(2, 0) + 10 * map.find(2, 3), 61);
        int[] wrong = {NONE, 1000, LEAST, MOST};
        for (int n : wrong) {
            due("6: put(" + n + ", 0)", map.put(n, 0), NONE);
            due("6: put(3, " + n + ")", map.put(3, n), NONE);
            due("6: put(8, " + n + ")", map.put(8, n), NONE);
        }
        due("6: these are not counted", map.count(14), 6);
        due("6: nor refused", map.count(15), 1);
        due("6: the value stays", map.get(8), 19);
        map.drop(0);
        map.drop(8);
        due("6: the least empty place", map.put(16, 1) + 10 * map.find(16, 1), 1);
    }

    // Promises 6 and 17
    private void chains() {
        TwoChoices map = Tapes.mapOf("buckets 3;stash 1;depth 1;" + STEPS + "has 0 0;has 1 1;");
        due("17: one", map.chain(3, NONE), 1);
        due("17: that in SECOND", map.chain(3, 0), 10);
        due("17: not so many", map.chain(3, 1), -2);
        due("17: k below NONE", map.chain(3, -2), -2);
        due("17: no such key", map.chain(1000, NONE), -2);
        due("17: no such key", map.chain(-1, 0), -2);
        due("6: by the chain", map.put(3, 3), 2);
        due("6: the new one has the place", map.find(3, 0), 1);
        due("6: the other one went on", map.find(1, 0), 2);
        due("6: it moved", map.find(1, 4), 1);
        due("6: the new one did not", map.find(3, 4), 0);
        due("24: the longest chain", map.count(22), 1);
        due("17: no bucket has an empty place", map.chain(0, NONE), -2);
        map = Tapes.mapOf("buckets 4;stash 1;depth 1;" + STEPS + "has 0 0;has 1 1;has 2 2;");
        due("17: two", map.chain(4, NONE), 2);
        due("17: the first", map.chain(4, 0), 10);
        due("17: the second", map.chain(4, 1), 20);
        due("6: a chain beyond DEPTH", map.put(4, 4), 3);
        due("24: no chain", map.count(22), 0);
        due("17: as if FIRST had no empty place", map.chain(3, NONE), -2);
        due("17: none from empty ones", new TwoChoices().chain(1, NONE), -2);
        map = Tapes.mapOf("buckets 4;stash 0;depth 2;" + STEPS + "has 0 0;has 1 1;has 2 2;");
        due("6: a chain of DEPTH", map.put(4, 4), 2);
        due("6: each into the next one's place", 100 * map.find(4, 0) + 10 * map.find(1, 0) + map.find(2, 0), 123);
        due("24: of two", map.count(22), 2);
    }

    // Promises 6 and 17: which of several chains
    private void chainsOfSeveral() {
        // With these hashes FIRST and SECOND are, of 23: 5, 0; of 12: 0, 5; of 11, 17: 5, 1; of 41: 5, 4;
        // of 35: 5, 5; of 42: 0, 2; of 13, 19: 1, 3; of 25: 1, 2; of 31: 1, 1; of 22, 28: 4, 2.
        String text = "buckets 6;stash 0;one 1 0;two 100 0;";
        TwoChoices map = Tapes.mapOf(text + "slots 1;has 11 0;has 42 0;");
        due("17: that in FIRST is ahead", map.chain(23, 0), 50);
        due("17: FIRST, not the least bucket", map.chain(12, 0), 0);
        map.put(25, 0);
        due("17: the fewest", map.chain(23, NONE), 1);
        due("17: that in SECOND then", map.chain(23, 0), 0);
        due("6: by that chain", map.put(23, 9), 2);
        due("6: into SECOND", map.find(23, 0), 0);
        map = Tapes.mapOf(text + "slots 2;has 35 0;has 11 0;");
        due("17: one without another bucket stands", map.chain(23, 0), 51);
        map = Tapes.mapOf(text + "slots 2;has 41 0;has 11 0;");
        due("17: the lesser place", map.chain(23, 0), 50);
        map = Tapes.mapOf(text + "slots 2;has 11 0;has 17 0;has 31 0;has 25 0;");
        due("17: two", map.chain(23, NONE), 2);
        due("17: the first of two", map.chain(23, 0), 50);
        due("17: the second of two", map.chain(23, 1), 11);
        map = Tapes.mapOf(text + "slots 2;has 11 0;has 17 0;has 19 0;has 25 0;");
        due("17: the next one by its place", map.chain(23, 1), 10);
        map = Tapes.mapOf(text + "slots 2;has 41 0;has 11 0;has 13 0;has 19 0;has 22 0;has 28 0;");
        due("17: by the first one's place", map.chain(23, 0), 50);
        due("17: then what follows from it", map.chain(23, 1), 40);
        map = Tapes.mapOf(text + "slots 1;has 11 0;");
        due("17: as if SECOND had no empty place", map.chain(11, NONE), -2);
    }

    // Promise 6
    private void walks() {
        String text = "seed 7;kick walk;buckets 3;stash 1;" + STEPS + "has 0 0;has 1 1;";
        TwoChoices map = Tapes.mapOf(text + "depth 2;");
        due("6: by a walk", map.put(3, 3), 2);
        due("6: where all are", 100 * map.find(3, 0) + 10 * map.find(0, 0) + map.find(1, 0), 12);
        due("6: moves", 100 * map.find(3, 4) + 10 * map.find(0, 4) + map.find(1, 4), 11);
        due("6: two draws", map.count(25), seedAfter(7, 2));
        due("24: a walk is no chain", map.count(22), 0);
        map = Tapes.mapOf(text + "depth 1;");
        due("6: not by then", map.put(3, 3), 3);
        due("6: as it was", 10 * map.find(0, 0) + map.find(1, 0), 1);
        due("6: moves as they were", map.count(18), 0);
        due("6: one draw", map.count(25), seedAfter(7, 1));
        map = Tapes.mapOf(text + "depth 0;");
        due("6: no steps", map.put(3, 3), 3);
        due("6: no draws", map.count(25), 7);
        map = Tapes.mapOf("seed 7;kick walk;buckets 2;stash 0;depth 5;slots 1;one 2 0;two 2 0;has 0 0;");
        due("6: a walk in one bucket", map.put(1, 1), NONE);
        due("6: five draws", map.count(25), seedAfter(7, 5));
        due("6: it is there", map.at(0, 0, 0), 0);
        map = Tapes.mapOf("seed 3;kick walk;buckets 3;stash 0;depth 1;slots 4;one 3 0;two 3 1;"
                + "has 0 0;has 1 0;has 2 0;has 3 0;has 4 0;has 5 0;has 6 0;has 7 0;one 3 0;two 3 1;");
        // Multiples of 3 below 1009 have FIRST 0 and SECOND 1.
        due("6: both are full", map.count(5), 4);
        due("6: no walk of one step", map.put(8, 8), NONE);
        due("6: the place below SLOTS is drawn", map.count(25), seedAfter(3, 1));
    }

    // Promise 6
    private void fullRefuse() {
        TwoChoices map = Tapes.mapOf("buckets 1;slots 1;stash 0;seed 4;has 5 6;");
        due("6: refused", map.put(7, 8), NONE);
        due("6: no entry of it", map.get(7), NONE);
        due("6: one entry", map.count(0), 1);
        due("6: the seed stays", map.count(25), 4);
    }

    // Promise 6
    private void fullRehash() {
        for (int seed = 1; seed <= 12; seed++) {
            TwoChoices map = Tapes.mapOf("buckets 2;stash 0;kick none;full rehash;tries 3;seed " + seed + ";"
                    + SAME + "has 0 0;");
            int tries = 0;
            int draws = 0;
            boolean well = false;
            while (!well && tries < 3) {
                tries++;
                int a = 1 + drawn(seed, draws + 1, 1008);
                int b = drawn(seed, draws + 2, 1009);
                int c = 1 + drawn(seed, draws + 3, 1008);
                int d = drawn(seed, draws + 4, 1009);
                draws += 4;
                int taken = b % 1009 % 2;
                well = (2 * a + b) % 1009 % 2 != taken || (2 * c + d) % 1009 % 2 != taken;
            }
            due("6: by a rehash", map.put(2, 2), well ? 4 : NONE);
            due("6: draws", map.count(25), seedAfter(seed, draws));
            due("24: hashes were changed", map.count(16), well ? 1 : 0);
            due("24: a of ONE", map.count(10), well ? 1 + drawn(seed, draws - 3, 1008) : 1);
            due("24: b of ONE", map.count(11), well ? drawn(seed, draws - 2, 1009) : 0);
            due("24: a of TWO", map.count(12), well ? 1 + drawn(seed, draws - 1, 1008) : 1);
            due("24: b of TWO", map.count(13), well ? drawn(seed, draws, 1009) : 0);
            due("6: the first one laid", map.find(0, 0), well ? map.hash(0, false) : 0);
            due("6: entries", map.count(0), well ? 2 : 1);
            due("6: born", map.find(2, 3), well ? 2 : NONE);
        }
        TwoChoices map = Tapes.mapOf("buckets 2;stash 0;kick none;full rehash;tries 0;" + SAME + "has 0 0;");
        due("6: no tries", map.put(2, 2), NONE);
        due("6: no draws", map.count(25), 0);
    }

    // Promise 6
    private void fullGrow() {
        TwoChoices map = Tapes.mapOf("buckets 1;stash 0;kick none;full grow;" + SAME + "has 0 0;");
        due("6: once", map.put(1, 1), 5);
        due("24: buckets", map.count(1), 2);
        due("24: doubled", map.count(17), 1);
        due("6: 2 to 16 for 8", map.put(8, 8), 5);
        due("24: buckets", map.count(1), 16);
        due("24: doubled thrice more", map.count(17), 4);
        due("6: no more", map.put(16, 1), NONE);
        due("6: buckets stay", map.count(1), 16);
        map = Tapes.mapOf("buckets 4;stash 0;kick none;full grow;" + SAME + "has 0 0;");
        due("6: never does", map.put(16, 1), NONE);
        due("6: all is as it was", map.count(1), 4);
        due("6: doubled", map.count(17), 0);
        due("6: hashes by the same", map.count(16), 0);
        map = Tapes.mapOf("buckets 9;stash 0;kick none;full grow;" + SAME + "has 0 0;");
        due("6: 9 are too many", map.put(9, 1), NONE);
        map = Tapes.mapOf("buckets 8;stash 0;kick none;full grow;" + SAME + "has 0 0;");
        due("6: 8 are not", map.put(8, 1), 5);
        map = Tapes.mapOf("buckets 2;stash 1;kick none;full grow;" + SAME + "has 0 0;has 2 0;");
        due("6: the stash is laid, too", map.put(4, 1), 5);
        due("6: of 0, 2, 4 in four buckets 4 is in the stash", map.find(4, 0), 100);
        due("6: 2 is in its bucket", map.find(2, 0), 2);
        due("6: that is no move", map.find(2, 4), 0);
    }

    // Promise 6
    private void fullTest() {
        String text = "buckets 4;stash 0;depth 1;full test;" + STEPS + "has 0 0;has 1 1;has 2 2;";
        TwoChoices map = Tapes.mapOf(text);
        due("6: by a chain beyond DEPTH", map.put(4, 4), 2);
        due("24: of two", map.count(22), 2);
        map = Tapes.mapOf(text + "kick none;");
        due("6: whatever KICK is", map.put(4, 4), 2);
        map = Tapes.mapOf(text + "stash 1;");
        due("6: the stash is ahead of it", map.put(4, 4), 3);
        map = Tapes.mapOf("buckets 2;stash 0;kick none;full test;tries 4;seed 1;" + SAME + "has 0 0;");
        TwoChoices twin = Tapes.mapOf("buckets 2;stash 0;kick none;full rehash;tries 4;seed 1;" + SAME + "has 0 0;");
        due("6: as by rehash, if there is none", map.put(2, 2), twin.put(2, 2));
        due("6: the same seed", map.count(25), twin.count(25));
        due("6: the same hash", map.count(12), twin.count(12));
        due("6: it was by rehash", map.count(16), 1);
    }

    // Promise 7
    private void gets() {
        TwoChoices map = Tapes.mapOf("buckets 4;stash 1;kick none;" + STEPS + "has 0 10;has 4 14;");
        due("7: in FIRST", map.get(0), 10);
        due("20: one read", map.count(20), 1);
        due("7: in SECOND", map.get(4), 14);
        due("20: two more", map.count(20), 3);
        due("7: none, the stash is empty", map.get(8), NONE);
        due("20: two more", map.count(20), 5);
        map.put(8, 18);
        due("7: in the stash", map.get(8), 18);
        due("20: three more", map.count(20), 8);
        due("7: none, the stash is read", map.get(2), NONE);
        due("20: three more", map.count(20), 11);
        int[] wrong = {NONE, 1000, LEAST, MOST};
        for (int n : wrong) {
            due("7: get(" + n + ")", map.get(n), NONE);
        }
        due("20: not counted", map.count(20), 11);
        map = Tapes.mapOf("stash 1;" + SAME + "has 0 0;has 4 1;");
        due("7: one bucket and the stash", map.get(4) + map.count(20), 3);
        due("7: one that is none there", map.get(9) + map.count(20), 3);
    }

    // Promise 8
    private void drops() {
        TwoChoices map = Tapes.mapOf("buckets 4;stash 3;kick none;" + STEPS
                + "has 0 10;has 4 14;has 8 18;has 12 22;has 5 15;");
        // 0 in 0, 4 in 1, stash: 8, 12; 5 in 2.
        due("8: one of none", map.drop(1), NONE);
        due("8: drop(1000)", map.drop(1000), NONE);
        due("8: drop(-1)", map.drop(NONE), NONE);
        due("8: its value", map.drop(0), 10);
        due("8: the first of the stash comes", map.find(8, 0), 0);
        due("8: it moved", map.find(8, 4), 1);
        due("8: the next one comes up", map.find(12, 1), 0);
        due("8: it did not move", map.find(12, 4), 0);
        due("8: it is gone", map.drop(0), NONE);
        map.put(16, 26);
        due("8: out of the stash", map.drop(12), 22);
        due("8: the one behind comes up", map.at(100, 0, 0), 16);
        due("8: none behind it", map.at(100, 1, 0), NONE);
        due("8: what SECOND frees", map.drop(4), 14);
        due("8: 16 comes to SECOND", map.find(16, 0), 1);
        due("8: puts are not counted", map.count(14), 6);
        map = Tapes.mapOf(STEPS + "has 0 0;has 1 1;");
        map.drop(0);
        due("8: it is gone when all is laid anew", map.rehash(1, 1, 1, 0) && map.count(0) == 1, true);
        map.drop(1);
        due("8: the last one, too", map.rehash(1, 0, 1, 1) && map.count(0) == 0, true);
        due("8: nothing is there", map.count(5) + map.filled(0), 8);
    }

    // Promise 9
    private void settles() {
        TwoChoices map = Tapes.mapOf("buckets 4;stash 2;depth 2;kick none;" + STEPS
                + "has 0 0;has 1 1;has 2 2;has 4 4;");
        due("9: 4 is in the stash", map.find(4, 0), 100);
        due("9: by a chain of DEPTH, whatever KICK is", map.settle(), 1);
        due("9: where all are", 100 * map.find(4, 0) + 10 * map.find(1, 0) + map.find(2, 0), 123);
        due("9: it moved", map.find(4, 4), 1);
        due("9: those of the chain, too", map.count(18), 3);
        due("24: the longest chain", map.count(22), 2);
        due("9: none is left", map.settle(), 0);
        map = Tapes.mapOf("buckets 4;stash 2;depth 1;kick none;" + STEPS + "has 0 0;has 1 1;has 2 2;has 4 4;");
        due("9: beyond DEPTH", map.settle(), 0);
        due("9: it stays", map.find(4, 0), 100);
        map = Tapes.mapOf("buckets 8;stash 3;kick none;" + STEPS
                + "has 0 0;has 1 1;has 4 4;has 5 5;has 8 8;has 16 6;has 12 2;");
        // 0 and 1, 4 and 5 in their FIRST; stash: 8 and 16 (0 or 1), 12 (4 or 5).
        due("9: stash", map.count(4), 3);
        due("9: 8 and 12 leave", map.settle(), 2);
        due("9: 16 comes up", map.find(16, 1), 0);
        due("9: it did not move", map.find(16, 4), 0);
        due("9: where 8 and 12 are", 10 * map.find(8, 0) + map.find(12, 0), 15);
    }

    // Promise 10
    private void rehashes() {
        TwoChoices map = Tapes.mapOf("buckets 4;stash 0;seed 9;" + STEPS + "has 0 5;has 1 6;");
        due("10: by hand", map.rehash(1, 1, 1, 2), true);
        due("10: laid by these", 10 * map.find(0, 0) + map.find(1, 0), 12);
        due("24: hashes", map.count(10) + 10 * map.count(11) + 100 * map.count(12) + 1000 * map.count(13), 2111);
        due("24: changed", map.count(16), 1);
        due("10: no move", map.count(18), 0);
        due("10: born stays", map.find(1, 3), 2);
        due("10: they don't all", map.rehash(4, 0, 4, 0), false);
        due("10: as it was", 10 * map.find(0, 0) + map.find(1, 0), 12);
        due("10: hashes as they were", map.count(10), 1);
        due("24: not changed", map.count(16), 1);
        due("10: the seed", map.count(25), 9);
        due("10: the edges", map.rehash(1008, 1008, 1, 0), true);
        int[][] wrong = {
            {0, 0, 1, 0}, {1009, 0, 1, 0}, {1, -1, 1, 0}, {1, 1009, 1, 0}, {1, 0, 0, 0}, {1, 0, 1009, 0},
            {1, 0, 1, -1}, {1, 0, 1, 1009}, {LEAST, 0, 1, 0}, {1, MOST, 1, 0}
        };
        for (int[] w : wrong) {
            due("10: wrong numbers", map.rehash(w[0], w[1], w[2], w[3]), false);
        }
        due("24: changed twice", map.count(16), 2);
        due("10: none at all", new TwoChoices().rehash(7, 7, 7, 7), true);
        map = Tapes.mapOf("buckets 4;stash 0;seed 9;kick walk;depth 3;" + STEPS + "has 0 5;has 1 6;");
        due("10: a walk in vain", map.rehash(4, 0, 4, 0), false);
        due("10: but for the seed", map.count(25), seedAfter(9, 3));
        map = Tapes.mapOf("buckets 2;slots 2;stash 1;one 1 0;two 1 0;has 0 0;has 2 0;has 4 0;");
        due("10: bucket by bucket, then the stash", map.rehash(1, 1, 1, 1), true);
        due("10: 4 is last again", map.find(4, 0), 100);
    }

    // Promises 11 and 12
    private void peelsAndBatches() {
        TwoChoices map = Tapes.mapOf("buckets 4;stash 1;" + STEPS + "has 4 40;has 1 10;has 2 20;has 5 50;");
        // FIRST and SECOND: 4: 0, 1; 1: 1, 2; 2: 2, 3; 5: 1, 2. Bucket 0 has 4 alone, bucket 3 has 2 alone.
        due("12: how many", map.peel(NONE, 0), 2);
        due("12: the first key", map.peel(0, 0), 4);
        due("12: its bucket", map.peel(0, 1), 0);
        due("12: the second key", map.peel(1, 0), 2);
        due("12: its bucket", map.peel(1, 1), 3);
        due("12: not so many", map.peel(2, 0), -2);
        due("12: another what", map.peel(0, 2), -2);
        due("12: another what", map.peel(0, -1), -2);
        due("12: NONE of another what", map.peel(NONE, 1), -2);
        due("12: k below NONE", map.peel(-2, 0), -2);
        due("12: far away", map.peel(MOST, 0), -2);
        due("11: all came in", map.batch(), true);
        due("11: the peeled ones", 10 * map.find(4, 0) + map.find(2, 0), 3);
        due("11: the core by keys", 10 * map.find(1, 0) + map.find(5, 0), 12);
        due("11: born", map.find(5, 3), 4);
        due("11: values", map.get(2), 20);
        due("11: none at all", new TwoChoices().batch(), true);
        due("12: none at all", new TwoChoices().peel(NONE, 0), 0);
        due("12: none at all", new TwoChoices().peel(0, 0), -2);
        map = Tapes.mapOf("buckets 4;slots 2;stash 0;one 1 0;two 1 1;has 8 0;has 4 0;");
        due("12: by keys rising", map.peel(0, 0), 4);
        due("12: then the other one", map.peel(1, 0), 8);
        due("12: both belong to 0", 10 * map.peel(0, 1) + map.peel(1, 1), 0);
        due("11: place by place", map.batch(), true);
        due("11: 4 is in the first place", map.at(0, 0, 0), 4);
        due("11: 8 is in the second", map.at(0, 1, 0), 8);
        map = Tapes.mapOf("buckets 2;stash 1;" + SAME + "has 0 0;has 2 2;has 1 1;");
        due("12: one whose buckets are the same is one", map.peel(NONE, 0), 1);
        due("12: the other two are the core", map.peel(0, 0), 1);
    }

    // Promise 11
    private void batchThatFails() {
        String text = "buckets 2;stash 1;kick none;seed 3;slots 1;one 1 0;two 1 0;";
        TwoChoices map = Tapes.mapOf(text + "has 2 2;has 0 0;");
        due("11: 2 is in the bucket", map.find(2, 0), 0);
        due("11: all of the core", map.batch(), true);
        due("11: by keys rising", map.find(0, 0), 0);
        due("11: 2 is in the stash now", map.find(2, 0), 100);
        due("11: no move", map.count(18), 0);
        // FIRST and SECOND are, of 63: 3, 0; of 45: 3, 2; of 14: 2, 1; of 54: 0, 1: a ring, none is peeled.
        map = Tapes.mapOf("buckets 6;slots 1;stash 0;kick walk;depth 1;seed 3;one 1 0;two 100 0;"
                + "has 63 0;has 45 1;has 14 2;has 54 3;");
        due("12: all are the core", map.peel(NONE, 0), 0);
        due("11: 14, 45, 54 take FIRST, then 63 has no place", map.batch(), false);
        due("11: as it was", 100 * map.find(63, 0) + 10 * map.find(45, 0) + map.find(14, 0), 321);
        due("11: moves as they were", map.count(18), 0);
        due("11: but for the seed", map.count(25), seedAfter(3, 1));
        map = Tapes.mapOf("buckets 6;slots 1;stash 0;kick shortest;depth 2;seed 3;one 1 0;two 100 0;"
                + "has 63 0;has 45 1;has 14 2;has 54 3;");
        due("11: by a chain", map.batch(), true);
        due("11: 63 in SECOND", map.find(63, 0), 0);
        due("11: 54 went on", map.find(54, 0), 1);
        due("11: it moved", map.find(54, 4), 1);
        due("24: the chain", map.count(22), 1);
    }

    // Promise 13
    private void loads() {
        TwoChoices map = Tapes.mapOf("buckets 16;slots 4;seed 4;");
        int draws = 0;
        int puts = 0;
        int lastKey = NONE;
        int lastValue = NONE;
        for (int k = 0; k < 12; k++) {
            boolean drops = drawn(77, draws + 1, 4) == 0;
            int key = drawn(77, draws + 2, 1000);
            draws += 2;
            if (!drops) {
                draws++;
                puts++;
                lastKey = key;
                lastValue = drawn(77, draws, 1000);
            }
        }
        due("13: none is refused", map.load(77, 12), 0);
        due("13: puts", map.count(14), puts);
        due("13: the last value", map.get(lastKey), lastValue);
        due("13: the map's seed stays", map.count(25), 4);
        due("13: again, the same keys", map.load(77, 12), 0);
        due("13: puts, twice as many", map.count(14), 2 * puts);
        int[] wrong = {0, 13, NONE, LEAST, MOST};
        for (int n : wrong) {
            due("13: load(1, " + n + ")", map.load(1, n), NONE);
        }
        due("13: nothing happens", map.count(14), 2 * puts);
        map = Tapes.mapOf("buckets 1;slots 1;stash 0;");
        int refused = map.load(5, 12) + map.load(6, 12);
        due("13: refused ones", refused, map.count(15));
        due("13: there are some", refused > 0, true);
        due("13: one at least", map.load(5, 1) <= 1, true);
    }

    // Promise 14
    private void finds() {
        TwoChoices map = Tapes.mapOf("buckets 4;slots 2;stash 2;kick none;one 1 0;two 1 1;"
                + "has 0 0;has 4 4;has 8 8;has 12 1;has 16 6;has 20 2;");
        // Bucket 0: 0 and 4; bucket 1: 8 and 12; the stash: 16 and 20.
        int[][] dues = {
            {0, 0, 0, 1, 1, 0, 1}, {4, 0, 1, 1, 2, 0, 2}, {8, 1, 0, 2, 3, 0, 3}, {12, 1, 1, 2, 4, 0, 4},
            {16, 100, 0, 3, 5, 0, 5}, {20, 100, 1, 3, 6, 0, 6}
        };
        for (int[] row : dues) {
            for (int what = 0; what < 6; what++) {
                due("14: find(" + row[0] + ", " + what + ")", map.find(row[0], what), row[what + 1]);
            }
        }
        due("14: what 6", map.find(0, 6), NONE);
        due("14: what -1", map.find(0, -1), NONE);
        due("14: no entry", map.find(1, 0), NONE);
        due("14: find(1000, 0)", map.find(1000, 0), NONE);
        due("14: find(-1, 0)", map.find(-1, 0), NONE);
        map = Tapes.mapOf("buckets 4;slots 2;one 1 0;two 1 1;has 0 0;has 4 4;has 8 8;has 12 1;");
        map.drop(0);
        due("14: empty places are not read", map.find(4, 5), 1);
        due("14: but for its place", map.find(4, 1), 1);
        map.drop(8);
        due("14: nor those of FIRST", map.find(12, 5), 2);
        map = Tapes.mapOf("stash 1;" + SAME + "has 0 0;has 4 4;");
        due("14: one bucket is read once", map.find(4, 5), 2);
        due("14: READ", map.find(4, 2), 2);
    }

    // Promise 15
    private void places() {
        TwoChoices map = Tapes.mapOf("buckets 4;slots 2;stash 2;kick none;one 1 0;two 1 1;"
                + "has 0 90;has 4 94;has 8 98;has 12 91;has 16 96;");
        int[][] dues = {{0, 1, 4, 94, 2, 0, 1}, {1, 0, 8, 98, 3, 0, 0}, {100, 0, 16, 96, 5, 0, 1}};
        for (int[] row : dues) {
            for (int what = 0; what < 5; what++) {
                due("15: at(" + row[0] + ", " + row[1] + ", " + what + ")",
                        map.at(row[0], row[1], what), row[what + 2]);
            }
        }
        int[][] wrong = {
            {2, 0, 0}, {0, 2, 0}, {0, -1, 0}, {4, 0, 0}, {-1, 0, 0}, {100, 1, 0}, {100, -1, 0}, {99, 0, 0},
            {0, 0, 5}, {0, 0, -1}, {MOST, 0, 0}, {0, MOST, 0}, {100, MOST, 0}, {LEAST, LEAST, 0}
        };
        for (int[] w : wrong) {
            due("15: at(" + w[0] + ", " + w[1] + ", " + w[2] + ")", map.at(w[0], w[1], w[2]), NONE);
        }
        map = Tapes.mapOf(SAME + "has 1 1;has 5 5;");
        due("15: there is no other", map.at(1, 0, 4), NONE);
        due("15: nor of one in the stash", map.at(100, 0, 4), NONE);
        due("15: which is there", map.at(100, 0, 0), 5);
        othersInStash();
    }

    // Promise 15, of the stash: keys of one bucket (202, 206, 210) and of two (2: 3 and 0).
    private void othersInStash() {
        TwoChoices map = new TwoChoices();
        due("15: put(202)", map.put(202, 0), 1);
        due("15: put(206)", map.put(206, 0), 1);
        due("15: put(210)", map.put(210, 0), 3);
        due("15: FIRST and SECOND are the same", map.at(100, 0, 4), NONE);
        map = Tapes.mapOf("kick none;slots 1;has 202 0;has 10 0;has 210 0;has 2 0;");
        due("15: none of the first in the stash", map.at(100, 0, 4), NONE);
        due("15: the second one's is SECOND", map.at(100, 1, 4), map.hash(2, true));
        due("15: the second one's key", map.at(100, 1, 0), 2);
        due("15: there is no third one", map.at(100, 2, 4), NONE);
    }

    // Promise 16
    private void hashes() {
        TwoChoices map = new TwoChoices();
        int[] keys = {0, 1, 7, 336, 999};
        for (int key : keys) {
            due("16: FIRST", map.hash(key, false), (3 * key + 1) % 1009 % 4);
            due("16: SECOND", map.hash(key, true), (5 * key + 2) % 1009 % 4);
        }
        due("16: hash(-1)", map.hash(-1, false), NONE);
        due("16: hash(1000)", map.hash(1000, true), NONE);
        due("16: hash(most)", map.hash(MOST, true), NONE);
    }

    // Promise 18
    private void woulds() {
        String[] texts = {
            "full refuse;", "full rehash;tries 4;", "full grow;", "full test;", "kick walk;full rehash;",
            "kick none;full grow;stash 0;", "stash 0;", "depth 0;full test;stash 0;"
        };
        for (String text : texts) {
            TwoChoices map = Tapes.mapOf("buckets 3;slots 1;seed 5;" + text);
            for (int key = 0; key < 30; key++) {
                int seed = map.count(25);
                int puts = map.count(14);
                int entries = map.count(0);
                int moves = map.count(18);
                int would = map.would(key * 7);
                due("18: the seed stays", map.count(25), seed);
                due("18: puts stay", map.count(14), puts);
                due("18: entries stay", map.count(0), entries);
                due("18: moves stay", map.count(18), moves);
                due("18: as put() then", map.put(key * 7, 1), would);
                due("18: of one that is there", map.would(map.key(0, true)), 0);
            }
        }
        TwoChoices map = new TwoChoices();
        due("18: would(1000)", map.would(1000), -2);
        due("18: would(-1)", map.would(-1), -2);
        due("18: would(1)", map.would(1), 1);
    }

    // Promise 19
    private void parts() {
        TwoChoices map = Tapes.mapOf("buckets 6;stash 2;kick none;" + STEPS + "has 0 0;has 6 6;has 12 2;has 3 3;");
        // 0, 6, 12 join 0 and 1 (12 is in the stash), 3 joins 3 and 4.
        int[][] dues = {
            {0, 3, 3, 2, 2, 0}, {1, 3, 3, 2, 2, 0}, {2, 4, 0, 1, 0, 1}, {3, 24, 1, 2, 0, 1}, {4, 24, 1, 2, 0, 1},
            {5, 32, 0, 1, 0, 1}
        };
        for (int[] row : dues) {
            for (int what = 0; what < 5; what++) {
                due("19: part(" + row[0] + ", " + what + ")", map.part(row[0], what), row[what + 1]);
            }
        }
        due("24: tangled", new TwoChoices().count(24) + map.count(24), 1);
        due("24: parts", map.count(23), 4);
        map.drop(12);
        due("24: no longer tangled", map.count(24), 0);
        map.put(12, 2);
        due("24: again", map.count(24), 1);
        map.put(9, 9);
        due("19: a ring", map.part(4, 3), 1);
        due("19: no longer tangled alone", map.count(24), 1);
        int[][] wrong = {{6, 0}, {-1, 0}, {100, 0}, {0, 5}, {0, -1}, {LEAST, 0}, {MOST, MOST}};
        for (int[] w : wrong) {
            due("19: part(" + w[0] + ", " + w[1] + ")", map.part(w[0], w[1]), NONE);
        }
        map = Tapes.mapOf("buckets 2;slots 3;one 1 0;two 1 0;has 0 0;has 2 2;has 1 1;");
        due("19: places of slots", map.part(0, 2), 3);
        due("19: more members than buckets", map.part(0, 3), 2);
        due("19: as many", map.part(1, 3), 1);
        due("19: empty places", map.part(1, 4), 2);
    }

    // Promises 20 and 21
    private void arranged() {
        TwoChoices map = Tapes.mapOf("buckets 4;stash 4;kick none;" + STEPS + "has 0 0;has 4 4;");
        due("20: no third of the same two", map.fits(8), false);
        due("20: but one of 1 and 2", map.fits(1), true);
        due("20: one that is there", map.fits(0), true);
        due("20: fits(-1)", map.fits(-1), false);
        due("20: fits(1000)", map.fits(1000), false);
        due("21: none", map.over(), 0);
        map.put(8, 8);
        due("21: one", map.over(), 1);
        due("20: one that is there, but not all fit", map.fits(0), false);
        due("20: nor with another", map.fits(2), false);
        map.put(12, 12);
        due("21: two", map.over(), 2);
        map.put(2, 2);
        map.put(6, 6);
        due("21: others do not help", map.over(), 2);
        map.put(1, 1);
        due("21: three", map.over(), 3);
        due("21: an empty map", new TwoChoices().over(), 0);
        map = Tapes.mapOf("buckets 3;stash 1;depth 0;" + STEPS + "has 0 0;has 1 1;has 3 3;");
        due("21: one in the stash that could be arranged", map.over() + map.count(4), 1);
    }

    // Promise 22
    private void leasts() {
        TwoChoices map = Tapes.mapOf("buckets 4;slots 1;stash 4;one 1 0;two 1 0;has 0 0;has 4 4;has 8 8;");
        due("22: buckets", map.least(0), 3);
        due("22: slots", map.least(1), 3);
        due("22: another what", map.least(3), NONE);
        due("22: another what", map.least(-1), NONE);
        int seed = 0;
        boolean well = false;
        while (!well && seed < 40) {
            seed++;
            TwoChoices trial = Tapes.mapOf("stash 0;slots 1;depth 16;full test;tries 0;one "
                    + (1 + drawn(seed, 1, 1008)) + " " + drawn(seed, 2, 1009) + ";two "
                    + (1 + drawn(seed, 3, 1008)) + " " + drawn(seed, 4, 1009) + ";");
            well = trial.put(0, 0) > 0 && trial.put(4, 4) > 0 && trial.put(8, 8) > 0;
        }
        due("22: the least seed", map.least(2), well ? seed : NONE);
        due("22: the seed stays", map.count(25), 0);
        map = Tapes.mapOf("buckets 1;slots 4;stash 4;one 1008 0;two 1008 0;has 0 0;has 1 0;has 2 0;has 3 0;"
                + "has 4 0;has 5 0;has 6 0;has 7 0;");
        due("22: eight in one bucket", map.least(1), 8);
        due("22: seeds do not help", map.least(2), NONE);
        map = Tapes.mapOf("slots 1;stash 4;buckets 16;one 1 0;two 1 0;has 0 0;has 32 0;");
        due("22: buckets that are no divisors", map.least(0), 3);
        map = new TwoChoices();
        due("22: an empty map", map.least(0) + 10 * map.least(1) + 100 * map.least(2), 111);
        String text = "buckets 16;stash 4;" + SAME;
        int[] apartBy32 = {975, 101, 408, 665, 740, 191, 854, 3, 91, 437, 626, 977};
        due("22: 32 at most", mapWith(text, apartBy32).least(0), 32);
        int[] apartLater = {108, 152, 395, 628, 927, 719, 206, 171, 533, 263, 426, 761, 909};
        due("22: not by 32", mapWith(text, apartLater).least(0), NONE);
        int[] seed40 = {59, 13, 20, 34, 31, 2, 5, 32, 21};
        due("22: 40 at most", mapWith("buckets 9;slots 1;stash 4;kick none;", seed40).least(2), 40);
    }

    private TwoChoices mapWith(String text, int[] keys) {
        TwoChoices with = Tapes.mapOf(text);
        for (int key : keys) {
            with.put(key, 0);
        }
        due("all " + keys.length + " are there", with.count(0), keys.length);
        return with;
    }

    /** As many entries as there may ever be: 16 times 4 and 4 in the stash. */
    private void mostEntries() {
        TwoChoices map = Tapes.mapOf("buckets 16;slots 4;stash 4;depth 16;full test;");
        int sum = 0;
        for (int key = 0; key < 1000 && map.count(0) < 68; key++) {
            sum += map.put(key, key % 7) > 0 ? 1 : 0;
        }
        due("6: 68 entries", sum, 68);
        due("24: entries", map.count(0), 68);
        due("24: in the stash", map.count(4), 4);
        due("24: no empty places", map.count(5), 0);
        due("25: all are full", map.filled(4), 16);
        int last = map.key(67, false);
        due("23: the last key", last >= 67 && map.find(last, 3) > 0, true);
        due("23: the last born", map.find(map.key(67, true), 0) >= 0, true);
        due("23: no further one", map.key(68, true), NONE);
        due("21: 4 at least", map.over() >= 4, true);
        due("6: no more", map.put(999, 0), NONE);
        for (int k = 0; k < 68; k++) {
            int key = map.key(k, false);
            due("7: each has its value", map.get(key), key % 7);
        }
        map.image(1);
        due("30: all are in the image", map.drop(last) == last % 7 && map.lost(1) == 1, true);
    }

    // Promise 23
    private void keys() {
        TwoChoices map = Tapes.mapOf("has 9 0;has 2 0;has 5 0;");
        int[] rising = {2, 5, 9};
        int[] born = {9, 2, 5};
        for (int k = 0; k < 3; k++) {
            due("23: key(" + k + ", false)", map.key(k, false), rising[k]);
            due("23: key(" + k + ", true)", map.key(k, true), born[k]);
        }
        int[] wrong = {3, -1, LEAST, MOST};
        for (int k : wrong) {
            due("23: key(" + k + ")", map.key(k, false), NONE);
            due("23: born(" + k + ")", map.key(k, true), NONE);
        }
        map.drop(9);
        map.put(9, 1);
        due("23: born anew", map.key(2, true), 9);
        map.put(2, 7);
        due("23: a further value is no birth", map.key(0, true), 2);
    }

    // Promise 24
    private void counts() {
        TwoChoices map = Tapes.mapOf("buckets 3;slots 1;stash 3;depth 1;tries 3;kick walk;full grow;"
                + "one 1 0;two 1 1;seed 8;has 0 0;has 1 1;");
        map.put(3, 3);
        Tapes.lay(map, "some");
        int draw = 1;
        int[] dues = {3, 3, 1, 3, 1, 1, 1, 3, 1, 2, 1, 0, 1, 1, 3, 0, 0, 0, 0, 0, 0, 3, 0, 1, 0};
        for (int what = 0; what < dues.length; what++) {
            due("24: count(" + what + ")", map.count(what), dues[what]);
        }
        due("24: the seed", map.count(25), seedAfter(8, draw));
        due("24: the tape", map.count(26), 4);
        int[] wrong = {27, -1, LEAST, MOST, 100};
        for (int what : wrong) {
            due("24: count(" + what + ")", map.count(what), NONE);
        }
        map = Tapes.mapOf("buckets 7;stash 0;" + STEPS + "has 0 0;has 1 0;has 7 0;has 4 0;has 5 0;has 11 0;");
        // 7 comes in by the chain of 1, 11 by that of 5.
        due("24: moved in all", map.count(18), 2);
        due("24: moved most", map.count(19), 1);
        due("24: read most", map.count(21), 2);
        map = Tapes.mapOf("buckets 3;kick walk;depth 2;" + STEPS + "has 0 0;has 1 1;has 3 3;");
        due("24: 0 and 1 moved", map.count(18), 2);
        map.drop(1);
        due("24: 0 moved", 10 * map.count(18) + map.count(19), 11);
        due("24: of none", new TwoChoices().count(19) + new TwoChoices().count(21), 0);
    }

    // Promise 25
    private void filledOnes() {
        TwoChoices map = Tapes.mapOf("buckets 5;slots 4;stash 1;one 1 0;two 1 0;has 0 0;has 5 0;has 10 0;has 15 0;"
                + "has 20 0;has 1 0;has 2 0;");
        int[] dues = {2, 2, 0, 0, 1};
        for (int many = 0; many < 5; many++) {
            due("25: filled(" + many + ")", map.filled(many), dues[many]);
        }
        due("25: filled(5)", map.filled(5), NONE);
        due("25: filled(-1)", map.filled(-1), NONE);
        due("25: more than slots", new TwoChoices().filled(4), 0);
        due("25: all are empty", new TwoChoices().filled(0), 4);
    }

    // Promise 26
    private void restlessOnes() {
        due("26: none", new TwoChoices().restless(), NONE);
        TwoChoices map = Tapes.mapOf("buckets 3;" + STEPS + "has 1 1;has 0 0;");
        due("26: of several the least", map.restless(), 0);
        map.put(3, 3);
        due("26: that moved", map.restless(), 1);
        map.drop(1);
        due("26: of those that are", map.restless(), 0);
    }

    // Promise 27
    private void whichOnes() {
        TwoChoices map = Tapes.mapOf("buckets 4;stash 1;depth 1;" + STEPS + "has 0 0;has 1 1;");
        due("27: by a place", map.which(1), 2);
        due("27: by a chain", map.which(2), 4);
        due("27: by the stash", map.which(3), NONE);
        due("27: refused", map.which(-1), NONE);
        map.put(2, 2);
        due("27: by the stash", map.which(3), 4);
        due("27: by a chain", map.which(2), 5);
        map.put(4, 4);
        due("27: refused", map.which(-1), 8);
        int[] wrong = {0, 6, -2, LEAST, MOST};
        for (int n : wrong) {
            due("27: which(" + n + ")", map.which(n), NONE);
        }
        due("27: nothing changes", map.count(14), 4);
        map = Tapes.mapOf("buckets 1;stash 0;kick none;full grow;slots 1;one 1 0;two 1 0;has 0 0;");
        due("27: by growth", map.which(5), 1);
        due("27: not by growth", map.which(-1), 16);
        map = Tapes.mapOf("buckets 2;stash 0;kick none;full rehash;tries 4;seed 1;" + SAME + "has 0 0;");
        due("27: by a rehash", map.would(map.which(4)), 4);
        map = Tapes.mapOf("buckets 1;slots 1;stash 0;has 0 0;");
        due("27: the least that has no entry", map.which(-1), 1);
        // 10 times a key and 9 is odd, but of 100, of which it is 1009.
        map = Tapes.mapOf("buckets 2;slots 1;stash 0;kick none;one 10 9;two 10 9;has 0 0;");
        due("27: 100 has a place", map.would(100), 1);
        due("27: below 100 alone", map.which(1), NONE);
        map = Tapes.mapOf("buckets 2;slots 1;stash 0;kick none;one 10 19;two 10 19;has 0 0;");
        due("27: 99 has a place", map.which(1), 99);
        due("27: 0, too", new TwoChoices().which(1), 0);
    }

    // Promise 28
    private void trieds() {
        String text = "buckets 2;slots 1;stash 1;kick walk;full grow;seed 3;has 1 1;has 2 2;";
        for (int what = 0; what < 26; what++) {
            TwoChoices map = Tapes.mapOf(text);
            int before = map.count(what);
            int tried = map.tried(99, 12, what);
            due("28: nothing stays", map.count(what), before);
            map.load(99, 12);
            due("28: as count(" + what + ") then", tried, map.count(what));
        }
        TwoChoices map = Tapes.mapOf(text);
        due("28: what 26", map.tried(1, 1, 26), NONE);
        due("28: what 27", map.tried(1, 1, 27), NONE);
        due("28: what -1", map.tried(1, 1, -1), NONE);
        due("28: n 0", map.tried(1, 0, 0), NONE);
        due("28: n 13", map.tried(1, 13, 0), NONE);
        due("28: n least", map.tried(1, LEAST, 0), NONE);
    }

    // Promise 28: what has moved and is in the last place of the stash is tried with its moves
    private void triedMoves() {
        TwoChoices map = Tapes.mapOf("buckets 5;stash 4;" + STEPS + "has 2 0;has 3 0;has 7 0;has 0 0;has 1 0;");
        due("6: 3 moved for 7", 10 * map.find(3, 0) + map.find(3, 4), 41);
        due("10: all into bucket 0 and the stash", map.rehash(5, 0, 5, 0), true);
        due("14: 3 came last", 10 * map.find(3, 1) + map.find(3, 4), 31);
        int seed = 0;
        while (drawn(seed, 1, 4) != 0 || drawn(seed, 2, 1000) < 10) {
            seed++;
        }
        due("28: a drop of none", map.tried(seed, 1, 18), 1);
        due("28: nothing moved", map.count(18), 1);
    }

    // Promises 29, 30, 31
    private void images() {
        TwoChoices map = Tapes.mapOf("seed 6;slots 1;has 1 1;has 2 2;");
        due("30: image(-1)", map.image(-1), false);
        due("30: image(3)", map.image(3), false);
        due("31: again(-1)", map.again(-1), false);
        due("31: again(3)", map.again(3), false);
        due("31: none such", map.again(2), false);
        due("29: none such", map.lost(2), NONE);
        due("29: lost(-1)", map.lost(-1), NONE);
        due("29: lost(3)", map.lost(3), NONE);
        Tapes.tell(map, "x");
        Tapes.lay(map, "slots 3;");
        map.get(1);
        due("30: image(2)", map.image(2), true);
        due("29: nothing is lost", map.lost(2), 0);
        map.drop(1);
        due("29: one is lost", map.lost(2), 1);
        map.put(1, 9);
        due("29: another value", map.lost(2), 1);
        map.put(2, 9);
        due("29: both", map.lost(2), 2);
        map.put(1, 1);
        due("29: it is back", map.lost(2), 1);
        map.text();
        due("31: all that is", map.again(2), true);
        due("31: the fault", map.fault(0) + map.fault(1), 1);
        due("31: the tape", map.count(26), 8);
        due("31: slots", map.count(2), 1);
        due("31: values", map.get(2), 2);
        due("31: tallies", map.count(14), 2);
        due("31: the seed", map.count(25), 6);
        due("31: the tape's bytes", map.text() + map.count(2), 3);
        due("31: twice", map.again(2) && map.count(2) == 1, true);
        map.put(3, 3);
        due("30: other images", map.image(0) && map.image(1), true);
        due("29: of another image", map.lost(0), 0);
        Tapes.lay(map, "slots 4;");
        map.image(1);
        Tapes.tell(map, "has 0 1;");
        map.image(2);
        map.drop(0);
        due("29: of the key 0, too", map.lost(2), 1);
        map.again(1);
        due("31: the bytes that were on the tape", map.text() + map.count(2), 4);
        map = Tapes.mapOf("seed 6;slots 1;has 1 1;has 2 2;");
        map.image(2);
        map.put(3, 3);
        map.image(0);
        map.image(1);
        map.again(2);
        due("29: 3 is lost", map.lost(0), 1);
        due("30: over an old one", map.image(0) && map.lost(0) == 0, true);
        due("31: a later one", map.again(1) && map.count(0) == 3, true);
    }
}
