/** Brings texts onto a map's tape. */
final class Tapes {
    private Tapes() {
    }

    /** The tape is just the text: how many bytes it has. */
    static int lay(TwoChoices map, String text) {
        map.end(0);
        for (int at = 0; at < text.length(); at += 20) {
            int[] n = numbers(text, at);
            map.feed(n[0], n[1], n[2], n[3], n[4]);
        }
        return map.end(text.length());
    }

    /** Five numbers with the twenty bytes from a place on, blanks behind the text's end. */
    static int[] numbers(String text, int at) {
        int[] n = new int[5];
        for (int k = 0; k < 20; k++) {
            int c = at + k < text.length() ? text.charAt(at + k) : 32;
            n[k / 4] = n[k / 4] << 8 | c;
        }
        return n;
    }

    static int tell(TwoChoices map, String text) {
        lay(map, text);
        return map.text();
    }

    static TwoChoices mapOf(String text) {
        TwoChoices map = new TwoChoices();
        if (tell(map, text) < 0) {
            throw new IllegalStateException("a fault in the test's own text: " + text);
        }
        return map;
    }
}
