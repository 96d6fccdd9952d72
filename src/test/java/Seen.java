/** All that a map tells of itself, written out, so that two moments can be compared. */
final class Seen {
    private static final int SEED = 25;

    private Seen() {
    }

    /** All of it, the seed and the tape's length, too. */
    static String all(TwoChoices map) {
        return butTheSeed(map) + " seed " + map.count(SEED);
    }

    static String butTheSeed(TwoChoices map) {
        StringBuilder s = new StringBuilder(entries(map));
        for (int what = 0; what <= 26; what++) {
            s.append(what == SEED ? "" : " count " + what + " " + map.count(what));
        }
        for (int what = 0; what < 2; what++) {
            s.append(" fault ").append(map.fault(what));
        }
        for (int k = 0; k < 3; k++) {
            s.append(" lost ").append(map.lost(k));
        }
        return s.toString();
    }

    /** What is in every place of every bucket and of the stash. */
    static String entries(TwoChoices map) {
        StringBuilder s = new StringBuilder();
        for (int b = 0; b <= 16; b++) {
            for (int place = 0; place < 4; place++) {
                s.append(" at ").append(b).append(' ').append(place);
                for (int what = 0; what < 5; what++) {
                    s.append(' ').append(map.at(b == 16 ? 100 : b, place, what));
                }
            }
        }
        return s.toString();
    }
}
