/** Terms 1 and promises 2 to 5: each sentence that names an edge of the tape or of texts, by itself. */
public final class TextEdgesTest {
    private static final int NONE = TwoChoices.NONE;
    private static final int LEAST = Integer.MIN_VALUE;
    private static final int MOST = Integer.MAX_VALUE;

    private final Checks checks = new Checks();

    public static void main(String[] args) {
        TextEdgesTest test = new TextEdgesTest();
        test.rangesOfSettings();
        test.rangesOfHashes();
        test.rangesOfHas();
        test.asAtFirst();
        test.tokensAsLongAsTheyGo();
        test.bytesBetweenTokens();
        test.bytesAtTheStart();
        test.bytesInANumber();
        test.bytesForASemicolon();
        test.numbersOfOneToFourDigits();
        test.oneByteForASemicolon();
        test.linesNoneOrMore();
        test.wordsOneLetterOff();
        test.wordsOfOtherLines();
        test.laterOnesStrike();
        test.furtherOnesOfHas();
        test.firstWithWhichNoTextGoesOn();
        test.everyPlaceOfTheEnd();
        test.firstByPlace();
        test.keyToldAlready();
        test.firstRefused();
        test.refusedOnlyIfNoneOfThese();
        test.bySettingsAtTheEnd();
        test.feedTill400();
        test.feedHighestFirst();
        test.endOfSoMany();
        test.endForgetsTheRest();
        test.textTakesTheTape();
        test.textWithFaultKeepsAllElse();
        test.textSetsTalliesToNought();
        test.talliesOfHas();
        test.faultOfLatestText();
        test.faultOfAnotherWhat();
        test.checks.end();
    }

    private void due(String call, long got, long want) {
        checks.due(call, got, want);
    }

    private void same(String call, String got, String want) {
        checks.due(call + ": " + got + ", due " + want, got.equals(want), true);
    }

    private void fault(String text, int fault, int place) {
        TwoChoices map = new TwoChoices();
        int answer = Tapes.tell(map, text);
        String call = "text() of '" + text + "'";
        due(call, answer < 0 ? 1 : 0, fault == 0 ? 0 : 1);
        due(call + ", fault(0)", map.fault(0), fault);
        due(call + ", fault(1)", map.fault(1), place);
    }

    private void well(String text) {
        fault(text, 0, NONE);
    }

    // "BUCKETS 1 .. 16, SLOTS 1 .. 4, STASH 0 .. 4, DEPTH 0 .. 16, TRIES 0 .. 4"; "(seed: 0 .. 9999.)"
    private void rangesOfSettings() {
        range("buckets", 1, 1, 16);
        range("slots", 2, 1, 4);
        range("stash", 3, 0, 4);
        range("depth", 6, 0, 16);
        range("tries", 7, 0, 4);
        range("seed", 25, 0, 9999);
    }

    private void range(String word, int what, int least, int most) {
        int[] numbers = {least - 1, least, least + 1, most - 1, most, most + 1};
        for (int n : numbers) {
            String text = word + " " + n + ";";
            int place = word.length() + 1;
            if (n >= least && n <= most) {
                well(text);
                due(text + " is taken", Tapes.mapOf(text).count(what), n);
            } else {
                // '-' is no byte of any token, 10000 is no token.
                fault(text, n < 0 || n > 9999 ? 1 : 2, place);
            }
        }
    }

    // "('one' | 'two') NUMBER NUMBER (1 .. 1008, 0 .. 1008)"
    private void rangesOfHashes() {
        String[] words = {"one", "two"};
        for (int k = 0; k < 2; k++) {
            String word = words[k];
            fault(word + " 0 5;", 2, 4);
            fault(word + " 1009 5;", 2, 4);
            fault(word + " 5 1009;", 2, 6);
            fault(word + " 0 1009;", 2, 4);
            TwoChoices map = Tapes.mapOf(word + " 1 0;");
            due(word + " 1 0, a", map.count(10 + 2 * k), 1);
            due(word + " 1 0, b", map.count(11 + 2 * k), 0);
            map = Tapes.mapOf(word + " 1008 1008;");
            due(word + " 1008 1008, a", map.count(10 + 2 * k), 1008);
            due(word + " 1008 1008, b", map.count(11 + 2 * k), 1008);
            due(word + ": the other one's a is as at first", map.count(12 - 2 * k), k == 0 ? 5 : 3);
            due(word + ": the other one's b is as at first", map.count(13 - 2 * k), k == 0 ? 2 : 1);
        }
    }

    // "KEYS and VALUES are 0 .. 999", behind has
    private void rangesOfHas() {
        fault("has 1000 5;", 2, 4);
        fault("has 9999 5;", 2, 4);
        fault("has 5 1000;", 2, 6);
        fault("has 5 9999;", 2, 6);
        TwoChoices map = Tapes.mapOf("has 0 999;has 999 0;");
        due("has 0 999", map.get(0), 999);
        due("has 999 0", map.get(999), 0);
    }

    // "(4 at first)", "(2)", "(2)", "(6)", "(2)", "(shortest)", "(refuse)", "(3 and 1)", "(5 and 2)", "(0)"
    private void asAtFirst() {
        int[] first = {4, 2, 2, 0, 8, 6, 2, 2, 0, 3, 1, 5, 2};
        TwoChoices told = Tapes.mapOf("buckets 5;slots 3;stash 3;depth 7;tries 3;kick walk;full grow;one 9 9;two 8 8;"
                + "seed 9;has 1 1;");
        TwoChoices[] maps = {new TwoChoices(), told};
        due("an empty text", told.text(), 0);
        for (TwoChoices map : maps) {
            for (int what = 1; what <= 13; what++) {
                due("at first count(" + what + ")", map.count(what), first[what - 1]);
            }
            due("at first the SEED", map.count(25), 0);
        }
    }

    // "TOKENS, as long as they go"
    private void tokensAsLongAsTheyGo() {
        fault("slotsstash 1;", 1, 0);
        fault("kicknone;", 1, 0);
        fault("kick nonewalk;", 1, 5);
        fault("slo ts 2;", 1, 0);
        fault("slots12;", 2, 5);
        fault("slots 1 2;", 1, 8);
        fault("one12;", 1, 5);
        well("one1 2;two3\n4;has5 6;slots2;");
        due("one1 2 without a blank", Tapes.mapOf("one1 2;").count(11), 2);
    }

    // "blanks (10, 32) between", and no other byte
    private void bytesBetweenTokens() {
        for (int c = 0; c < 256; c++) {
            String text = "slots" + (char) c + "2;";
            if (c == 10 || c == 32 || c == '0') {
                well(text);
            } else if (c >= '1' && c <= '9') {
                fault(text, 2, 5);
            } else {
                fault(text, 1, c >= 'a' && c <= 'z' ? 0 : 5);
            }
        }
    }

    // "words, rows of letters a .. z": no other byte begins a line or goes on with a word
    private void bytesAtTheStart() {
        for (int c = 0; c < 256; c++) {
            boolean blank = c == 10 || c == 32;
            fault((char) c + ";", 1, blank ? 1 : 0);
            if (blank) {
                well((char) c + "slots 2;" + (char) c);
            } else {
                fault((char) c + "slots 2;", 1, 0);
            }
        }
    }

    // "NUMBERS, 1 to 4 digits": no other byte is one
    private void bytesInANumber() {
        for (int c = 0; c < 256; c++) {
            String text = "seed " + (char) c + ";";
            if (c >= '0' && c <= '9') {
                due(text, Tapes.mapOf(text).count(25), c - '0');
            } else {
                fault(text, 1, c == 10 || c == 32 ? 6 : 5);
            }
        }
    }

    // "; one byte": no other one ends a line
    private void bytesForASemicolon() {
        for (int c = 0; c < 256; c++) {
            String text = "seed 1" + (char) c;
            if (c == ';') {
                well(text);
            } else if (c >= '0' && c <= '9' || c == 10 || c == 32) {
                fault(text, 1, 7);
            } else {
                fault(text, 1, 6);
            }
        }
    }

    // "NUMBERS, 1 to 4 digits"; "(a longer row of digits is no token)"
    private void numbersOfOneToFourDigits() {
        due("one digit", Tapes.mapOf("seed 7;").count(25), 7);
        due("four digits", Tapes.mapOf("seed 9876;").count(25), 9876);
        due("four digits, of which some lead", Tapes.mapOf("seed 0007;").count(25), 7);
        fault("seed ;", 1, 5);
        fault("seed 00007;", 1, 5);
        fault("seed 12345;", 1, 5);
        fault("slots 00002;", 1, 6);
        fault("one 1 00002;", 1, 6);
        fault("has 00001 1;", 1, 4);
        fault("12345", 1, 0);
        fault("slots 9;slots 00002;", 1, 14);
        fault("seed 1 12345;", 1, 7);
        fault("seed 12345", 1, 5);
        fault("seed 1234", 1, 9);
    }

    // "; one byte"
    private void oneByteForASemicolon() {
        fault("slots 2;;", 1, 8);
        fault("slots 2; ;", 1, 9);
        fault(";slots 2;", 1, 0);
        well("slots 2 ;slots 3;\nslots 4\n;");
    }

    // "A TEXT: {LINE ';'}"
    private void linesNoneOrMore() {
        well("");
        well(" ");
        well("\n \n");
        well("slots 2;");
        fault("slots 2", 1, 7);
        fault("slots 2;slots 2", 1, 15);
        due("no line, no entries", Tapes.tell(new TwoChoices(), ""), 0);
    }

    // "LINE: ('buckets' | 'slots' | ..": each word, and nothing that is one letter off
    private void wordsOneLetterOff() {
        String[][] lines = {
            {"buckets", " 2;"}, {"slots", " 2;"}, {"stash", " 2;"}, {"depth", " 2;"}, {"tries", " 2;"}, {"seed", " 2;"},
            {"kick", " none;"}, {"full", " grow;"}, {"one", " 2 2;"}, {"two", " 2 2;"}, {"has", " 2 2;"}
        };
        for (String[] line : lines) {
            well(line[0] + line[1]);
            offByOne("", line[0], line[1]);
        }
        String[] kicks = {"none", "walk", "shortest"};
        String[] fulls = {"refuse", "rehash", "grow", "test"};
        for (int k = 0; k < kicks.length; k++) {
            due("kick " + kicks[k], Tapes.mapOf("kick " + kicks[k] + ";").count(8), k);
            offByOne("kick ", kicks[k], ";");
        }
        for (int k = 0; k < fulls.length; k++) {
            due("full " + fulls[k], Tapes.mapOf("full " + fulls[k] + ";").count(9), k);
            offByOne("full ", fulls[k], ";");
        }
    }

    private void offByOne(String before, String word, String behind) {
        int last = word.length() - 1;
        fault(before + word.substring(0, last) + behind, 1, before.length());
        fault(before + word + "s" + behind, 1, before.length());
        fault(before + word.substring(0, last) + "z" + behind, 1, before.length());
        fault(before + "z" + word.substring(1) + behind, 1, before.length());
    }

    // "'kick' ('none' | 'walk' | 'shortest') | 'full' ('refuse' | 'rehash' | 'grow' | 'test')", and NUMBERS elsewhere
    private void wordsOfOtherLines() {
        fault("kick refuse;", 1, 5);
        fault("kick grow;", 1, 5);
        fault("full walk;", 1, 5);
        fault("full shortest;", 1, 5);
        fault("kick 0;", 1, 5);
        fault("full 3;", 1, 5);
        fault("kick kick;", 1, 5);
        fault("slots none;", 1, 6);
        fault("none;", 1, 0);
        fault("test;", 1, 0);
        fault("one 1;", 1, 5);
        fault("one 1 x;", 1, 6);
        fault("has 1;", 1, 5);
        fault("has 1 2 3;", 1, 8);
        fault("slots;", 1, 5);
        fault("kick;", 1, 4);
        fault("kick none none;", 1, 10);
        fault("has has;", 1, 4);
    }

    // "Later ones strike"
    private void laterOnesStrike() {
        TwoChoices map = Tapes.mapOf("buckets 5;slots 3;stash 3;depth 7;tries 3;seed 9;kick walk;full grow;one 9 8;two 7 6;"
                + "buckets 6;slots 4;stash 1;depth 5;tries 1;seed 8;kick none;full test;one 5 4;two 3 2;");
        int[] dues = {6, 4, 1, 0, 24, 5, 1, 0, 3, 5, 4, 3, 2};
        for (int what = 1; what <= 13; what++) {
            due("a later one, count(" + what + ")", map.count(what), dues[what - 1]);
        }
        due("a later seed", map.count(25), 8);
        fault("slots 5;slots 4;", 2, 6);
    }

    // "but has, which are further ones"
    private void furtherOnesOfHas() {
        TwoChoices map = Tapes.mapOf("has 1 11;has 2 12;has 3 13;");
        due("three of has", map.count(0), 3);
        due("the first of them", map.get(1), 11);
        due("the last of them", map.get(3), 13);
        StringBuilder most = new StringBuilder("slots4;buckets16;");
        for (int key = 0; key < 48; key++) {
            most.append("has").append(key).append(" 1;");
        }
        due("48 of has", Tapes.tell(new TwoChoices(), most.toString()), 48);
    }

    // "1 the first byte or token with which no text goes on", whatever other faults there are
    private void firstWithWhichNoTextGoesOn() {
        fault("x", 1, 0);
        fault("x y", 1, 0);
        fault("  x", 1, 2);
        fault("slots 9;x", 1, 8);
        fault("has 1 1;has 1 1;x", 1, 16);
        fault("slots 1;stash 0;buckets 1;has 0 0;has 1 1;x", 1, 42);
        fault("slots 9", 1, 7);
        fault("has 1 1;has 1", 1, 13);
        fault("slots x;slots 9;", 1, 6);
        fault("slots 2;#", 1, 8);
        fault("slots 2;#slots 2;#", 1, 8);
        fault("one 0 x;", 1, 6);
        String[] cut = {"slots", "one", "one 1", "two", "two 1", "has", "has 1", "kick", "full"};
        for (String line : cut) {
            fault(line + ";x", 1, line.length());
            fault(line + ";slots 9;", 1, line.length());
        }
    }

    // "with places (a token's first byte; the end's)"
    private void everyPlaceOfTheEnd() {
        String text = "kick walk;has 5 6;";
        int[] places = {NONE, 0, 0, 0, 4, 5, 5, 5, 5, 9, NONE, 10, 10, 13, 14, 15, 16, 17, NONE};
        for (int n = 0; n <= text.length(); n++) {
            fault(text.substring(0, n), places[n] < 0 ? 0 : 1, places[n]);
        }
        fault("slots 2 ", 1, 8);
        fault("slots 2\n\n", 1, 9);
        fault(" ".repeat(393) + "slots 2", 1, 400);
        fault(" ".repeat(399) + "x", 1, 399);
    }

    // "If there is none, the first by place": 2 or 3
    private void firstByPlace() {
        fault("slots 9;has 1 1;has 1 1;", 2, 6);
        fault("has 1 1;has 1 1;slots 9;", 3, 12);
        fault("slots 9;slots 0;", 2, 6);
        fault("has 1 1;has 1 1;has 1 1;", 3, 12);
        fault("has 1 1;has 1 1000;", 3, 12);
        fault("has 1 1000;has 1 1;", 2, 6);
        fault("has 1000 1;has 1000 1;", 2, 4);
        fault("has 1000 1000;", 2, 4);
        fault("one 0 1009;", 2, 4);
        fault("one 1 1009;two 0 0;", 2, 6);
    }

    // "3 a KEY behind has that has told already, at it"
    private void keyToldAlready() {
        fault("has 1 1;has 1 1;", 3, 12);
        fault("has 1 1;has 1 2;", 3, 12);
        fault("has 1 1;has 0001 2;", 3, 12);
        fault("has 0 1;has 0 2;", 3, 12);
        fault("has 999 1;has 2 2;has   999 3;", 3, 24);
        well("has 1 2;has 2 1;has 3 3;");
        well("has 1 1;has 11 1;");
    }

    // "4, at the KEY's place, the first one told by has that is REFUSED"
    private void firstRefused() {
        String text = "slots 1;stash 0;buckets 1;";
        well(text + "has 0 0;");
        fault(text + "has 0 0;has 1 1;", 4, 38);
        fault(text + "has 0 0;has 1 1;has 2 2;", 4, 38);
        fault(text + "has 0 0;has \n 0001 1;", 4, 40);
        fault(text + "has 0 0;has 1 1;stash 1;has 2 2;", 4, 54);
        well(text + "has 0 0;has 1 1;stash 1;");
        well(text + "has 0 0;has 1 1;full grow;one 1 0;");
    }

    // "If there is none of these": 2 or 3 are told ahead of 4, even if they are behind it
    private void refusedOnlyIfNoneOfThese() {
        String text = "slots 1;stash 0;buckets 1;has 0 0;has 1 1;";
        fault(text, 4, 38);
        fault(text + "tries 5;", 2, 48);
        fault(text + "has 0 1;", 3, 46);
        fault(text + "tries", 1, 47);
    }

    // "(.. all being put as they come, by the SETTINGS that there are at the end)"
    private void bySettingsAtTheEnd() {
        fault("has 0 0;has 1 1;has 2 2;slots 1;stash 1;buckets 1;", 4, 20);
        TwoChoices map = Tapes.mapOf("has 5 0;has 4 0;one 1 0;two 1 0;buckets 8;slots 1;");
        due("has by hashes told behind it", map.find(5, 0), 5);
        due("the first one came first", map.find(5, 3), 1);
        due("the second one then", map.find(4, 3), 2);
    }

    // Promise 2: "NONE, and nothing comes, if there would be more than 400"
    private void feedTill400() {
        TwoChoices map = new TwoChoices();
        for (int k = 1; k <= 20; k++) {
            due("2: feed to " + 20 * k, map.feed(0x20202020, 0x20202020, 0x20202020, 0x20202020, 0x20202020), 20 * k);
        }
        due("2: 400 is no more than 400", map.count(26), 400);
        due("2: feed onto 400", map.feed(0, 0, 0, 0, 0), NONE);
        due("2: nothing came", map.count(26), 400);
        map.end(381);
        due("2: feed onto 381", map.feed(0, 0, 0, 0, 0), NONE);
        due("2: nothing came onto 381", map.count(26), 381);
        map.end(380);
        due("2: feed onto 380", map.feed(0x20202020, 0x20202020, 0x20202020, 0x20202020, 0x2020202d), 400);
        due("2: those that were refused are not there", map.text(), NONE);
        due("2: the last byte alone is wrong", map.fault(1), 399);
    }

    // Promise 2: "of each number the highest first"
    private void feedHighestFirst() {
        TwoChoices map = new TwoChoices();
        due("2: twenty", map.feed(0x736c6f74, 0x7320343b, 0x73656564, 0x20313233, 0x343b2020), 20);
        due("2: a text of them", map.text(), 0);
        due("2: slots 4", map.count(2), 4);
        due("2: seed 1234", map.count(25), 1234);
        for (int k = 0; k < 20; k++) {
            int[] n = {0x20202020, 0x20202020, 0x20202020, 0x20202020, 0x20202020};
            n[k / 4] ^= 0x80 << (24 - 8 * (k % 4));
            map.feed(n[0], n[1], n[2], n[3], n[4]);
            map.text();
            due("2: the byte at " + k, map.fault(1), k);
        }
    }

    // Promise 3: "NONE if it has not so many, or n is below 0"
    private void endOfSoMany() {
        TwoChoices map = new TwoChoices();
        due("3: end(0) of none", map.end(0), 0);
        due("3: end(1) of none", map.end(1), NONE);
        map.feed(1, 2, 3, 4, 5);
        int[] wrong = {21, -1, LEAST, MOST};
        for (int n : wrong) {
            due("3: end(" + n + ")", map.end(n), NONE);
            due("3: all are there", map.count(26), 20);
        }
        due("3: end(20)", map.end(20), 20);
        due("3: end(19)", map.end(19), 19);
        due("3: end(20) of 19", map.end(20), NONE);
        due("3: 19 are there", map.count(26), 19);
        due("3: end(0)", map.end(0), 0);
        due("3: none is there", map.count(26), 0);
    }

    // Promise 3: "its first n bytes alone"
    private void endForgetsTheRest() {
        TwoChoices map = new TwoChoices();
        Tapes.lay(map, "slots 3;slots 4;");
        map.end(8);
        due("3: the first eight", map.text(), 0);
        due("3: slots 3", map.count(2), 3);
        Tapes.lay(map, "seed 12;");
        map.end(6);
        map.feed(0x3b202020, 0x20202020, 0x20202020, 0x20202020, 0x20202020);
        due("3: what comes then is behind them", map.text(), 0);
        due("3: seed 1", map.count(25), 1);
    }

    // Promise 4: "The tape is taken (and is empty then)"
    private void textTakesTheTape() {
        String[] texts = {"slots 3;", "x", "slots 9;", "has 1 1;has 1 1;", "slots 1;stash 0;buckets 1;has 0 0;has 1 1;", ""};
        for (String text : texts) {
            TwoChoices map = new TwoChoices();
            Tapes.tell(map, text);
            due("4: empty behind '" + text + "'", map.count(26), 0);
            due("4: not even one", map.end(1), NONE);
            due("4: taken once more", map.text(), 0);
        }
    }

    // Promise 4: "NONE: a FAULT (all else stays)"
    private void textWithFaultKeepsAllElse() {
        String[] texts = {
            "slots 3;kick none;has 1 1;x", "slots 3;has 1 1;buckets 17;", "seed 4;has 1 1;has 1 1;",
            "kick walk;full rehash;slots 1;stash 0;buckets 1;seed 9;has 0 0;has 1 1;"
        };
        TwoChoices map = Tapes.mapOf("seed 77;kick walk;full grow;buckets 3;slots 1;stash 1;has 5 6;has 8 9;has 11 12;");
        map.image(2);
        map.get(5);
        map.rehash(7, 7, 9, 9);
        for (int k = 0; k < texts.length; k++) {
            String before = told(map);
            due("4: a fault " + (k + 1), Tapes.tell(map, texts[k]), NONE);
            due("4: it is " + (k + 1), map.fault(0), k + 1);
            same("4: all else stays", told(map), before);
        }
        due("4: the image, too", map.again(2) ? map.count(16) : NONE, 0);
    }

    /** What is apart from the tape and the fault. */
    private static String told(TwoChoices map) {
        StringBuilder s = new StringBuilder(Seen.entries(map));
        for (int what = 0; what < 26; what++) {
            s.append(' ').append(map.count(what));
        }
        return s.append(" lost ").append(map.lost(2)).toString();
    }

    // Promise 4: "tallies 0"
    private void textSetsTalliesToNought() {
        TwoChoices map = Tapes.mapOf("buckets 3;stash 0;full grow;slots 1;one 1 0;two 1 1;has 0 0;has 1 0;");
        due("4: by a CHAIN", map.put(3, 0), 2);
        due("4: by growth", map.put(6, 0), 5);
        due("4: by growth again", map.put(12, 0), 5);
        due("4: REFUSED", map.put(24, 0), NONE);
        map.rehash(1, 1, 1, 2);
        map.get(0);
        map.tried(1, 12, 0);
        int[] tallies = {14, 15, 16, 17, 18, 19, 20, 21, 22};
        for (int what : tallies) {
            due("4: there is a tally " + what, map.count(what) > 0 ? 1 : 0, 1);
        }
        due("4: a text without has", Tapes.tell(map, "slots 1;"), 0);
        for (int what : tallies) {
            due("4: the tally " + what + " is 0", map.count(what), 0);
        }
        due("4: the next PUT is the first", map.put(1, 1) == 1 ? map.find(1, 3) : NONE, 1);
    }

    // Promise 4: "but those of has"
    private void talliesOfHas() {
        String text = "stash 0;slots 1;one 1 0;two 1 1;";
        TwoChoices map = Tapes.mapOf(text + "buckets 3;has 0 0;has 1 0;has 3 0;");
        due("4: PUTS of has", map.count(14), 3);
        due("4: MOVED of has", map.count(18), 1);
        due("4: the CHAIN of has", map.count(22), 1);
        map = Tapes.mapOf(text + "buckets 1;full grow;has 0 0;has 1 0;");
        due("4: doubled by has", map.count(17), 1);
        int seed = 0;
        map = new TwoChoices();
        String rehash = "stash 0;slots 1;buckets 2;kick none;full rehash;tries 4;one 1 0;two 1 0;has 0 0;has 2 0;seed ";
        while (seed < 100 && Tapes.tell(map, rehash + seed + ";") < 0) {
            seed++;
        }
        due("4: hashes changed by has", map.count(16), 1);
        due("4: none was REFUSED", map.count(15), 0);
    }

    // Promise 5: "Of the latest text(), what 0: the FAULT, 0 without, 1: its place, NONE without"
    private void faultOfLatestText() {
        TwoChoices map = new TwoChoices();
        due("5: before any text()", map.fault(0), 0);
        due("5: no place", map.fault(1), NONE);
        Tapes.tell(map, "slots 2;slots 9;");
        due("5: a fault", map.fault(0), 2);
        due("5: its place", map.fault(1), 14);
        Tapes.lay(map, "x");
        due("5: not taken yet", map.fault(0), 2);
        map.text();
        due("5: of the latest one", map.fault(0), 1);
        due("5: its place is 0", map.fault(1), 0);
        map.put(1000, 1);
        due("5: other calls do not matter", map.fault(0), 1);
        map.text();
        due("5: without", map.fault(0), 0);
        due("5: without a place", map.fault(1), NONE);
    }

    // Promise 5: "NONE for another what"
    private void faultOfAnotherWhat() {
        TwoChoices map = new TwoChoices();
        Tapes.tell(map, "    x");
        due("5: fault(1)", map.fault(1), 4);
        int[] wrong = {2, -1, LEAST, MOST};
        for (int what : wrong) {
            due("5: fault(" + what + ")", map.fault(what), NONE);
        }
    }
}
