import java.util.ArrayList;
import java.util.HashSet;
import java.util.List;
import java.util.Set;
import java.util.regex.Matcher;
import java.util.regex.Pattern;

/** A text read another way: all tokens are cut first, then the lines are matched by patterns of kinds. */
final class ModelText {
    private static final Pattern TOKEN = Pattern.compile("[\n ]*(?:([a-z]+)|([0-9]+)|(;)|([^\n ]))");
    private static final List<String> NUMBERED =
            List.of("buckets", "slots", "stash", "depth", "tries", "seed");

    final Model.State state = new Model.State();
    final List<int[]> has = new ArrayList<>();
    int fault = 0;
    int faultPlace = -1;

    private final List<String> tokens = new ArrayList<>();
    private final List<Integer> places = new ArrayList<>();

    ModelText(String tape) {
        cut(tape);
        int stuck = firstStuck();
        if (stuck >= 0) {
            fault = 1;
            faultPlace = places.get(stuck);
            return;
        }
        takeLines();
    }

    private void cut(String tape) {
        Matcher m = TOKEN.matcher(tape);
        int at = 0;
        while (m.find(at)) {
            int group = m.group(1) != null ? 1 : m.group(2) != null ? 2 : m.group(3) != null ? 3 : 4;
            boolean none = group == 4 || group == 2 && m.group(2).length() > 4;
            tokens.add(none ? "?" : m.group(group));
            places.add(m.start(group));
            at = m.end();
        }
        tokens.add("$");
        places.add(tape.length());
    }

    /** The kinds that may stand behind the words of one line so far, told by the line's first word. */
    private static List<String> shapeOf(String word) {
        if (NUMBERED.contains(word)) {
            return List.of("[0-9]+", ";");
        }
        switch (word) {
            case "kick":
                return List.of("none|walk|shortest", ";");
            case "full":
                return List.of("refuse|rehash|grow|test", ";");
            case "one":
            case "two":
            case "has":
                return List.of("[0-9]+", "[0-9]+", ";");
            default:
                return null;
        }
    }

    private int firstStuck() {
        int k = 0;
        while (!tokens.get(k).equals("$")) {
            List<String> shape = shapeOf(tokens.get(k));
            if (shape == null) {
                return k;
            }
            k++;
            for (String kind : shape) {
                if (!tokens.get(k).matches(kind)) {
                    return k;
                }
                k++;
            }
        }
        return -1;
    }

    private void takeLines() {
        Set<Integer> told = new HashSet<>();
        for (int k = 0; !tokens.get(k).equals("$"); ) {
            String word = tokens.get(k);
            int a = word.matches("kick|full") ? 0 : Integer.parseInt(tokens.get(k + 1));
            int place = places.get(k + 1);
            int length = 3;
            switch (word) {
                case "kick":
                    state.kick = List.of("none", "walk", "shortest").indexOf(tokens.get(k + 1));
                    break;
                case "full":
                    state.full = List.of("refuse", "rehash", "grow", "test").indexOf(tokens.get(k + 1));
                    break;
                case "one":
                case "two":
                case "has":
                    length = 4;
                    takePair(word, a, Integer.parseInt(tokens.get(k + 2)), place, places.get(k + 2), told);
                    break;
                default:
                    takeNumber(word, a, place);
                    break;
            }
            k += length;
        }
    }

    private void takeNumber(String word, int n, int place) {
        switch (word) {
            case "buckets":
                check(n, 1, 16, place);
                state.buckets = n;
                break;
            case "slots":
                check(n, 1, 4, place);
                state.slots = n;
                break;
            case "stash":
                check(n, 0, 4, place);
                state.stashMost = n;
                break;
            case "depth":
                check(n, 0, 16, place);
                state.depth = n;
                break;
            case "tries":
                check(n, 0, 4, place);
                state.tries = n;
                break;
            default:
                state.seed = n;
                break;
        }
    }

    private void takePair(String word, int a, int b, int placeA, int placeB, Set<Integer> told) {
        if (word.equals("has")) {
            check(a, 0, 999, placeA);
            if (!told.add(a)) {
                note(3, placeA);
            }
            check(b, 0, 999, placeB);
            has.add(new int[] {a, b, placeA});
            return;
        }
        check(a, 1, 1008, placeA);
        check(b, 0, 1008, placeB);
        if (word.equals("one")) {
            state.one = new int[] {a, b};
        } else {
            state.two = new int[] {a, b};
        }
    }

    private void check(int n, int least, int most, int place) {
        if (n < least || n > most) {
            note(2, place);
        }
    }

    private void note(int which, int place) {
        if (fault == 0) {
            fault = which;
            faultPlace = place;
        }
    }
}
