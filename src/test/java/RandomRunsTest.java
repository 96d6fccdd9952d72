import java.util.Random;

/** Runs of calls chosen by fixed seeds, each answered by the class and by the model alike. */
public final class RandomRunsTest {
    private static final String[] KICKS = {"none", "walk", "shortest"};
    private static final String[] FULLS = {"refuse", "rehash", "grow", "test"};
    private static final String[] SCRAPS = {
        "buckets", "slots", "stash", "depth", "tries", "seed", "kick", "full", "one", "two", "has",
        "none", "walk", "shortest", "refuse", "rehash", "grow", "test", ";", " ", "\n", "0", "7", "1009",
        "12345", "#", "A", "bucket", "tests", "\u00e9"
    };

    private final Checks checks;
    private final Random dice;
    private final String name;
    private final TwoChoices map = new TwoChoices();
    private final Model model = new Model();
    private int keys = 1000;

    private RandomRunsTest(Checks checks, int run) {
        this.checks = checks;
        this.dice = new Random(run);
        this.name = "run " + run + ": ";
    }

    public static void main(String[] args) {
        int runs = args.length > 0 ? Integer.parseInt(args[0]) : 1500;
        int from = args.length > 1 ? Integer.parseInt(args[1]) : 0;
        Checks checks = new Checks();
        for (int run = from; run < from + runs && !checks.failed(); run++) {
            new RandomRunsTest(checks, run).go();
        }
        checks.end();
    }

    private void go() {
        keys = new int[] {8, 30, 100, 1000}[dice.nextInt(4)];
        tell(settings());
        int calls = 60 + dice.nextInt(200);
        for (int k = 0; k < calls && !checks.failed(); k++) {
            if (dice.nextInt(60) == 0) {
                tell(dice.nextInt(3) == 0 ? settings() : scraps());
            } else if (dice.nextInt(2) == 0) {
                change();
            } else {
                ask();
            }
            if (k % 10 == 0) {
                askAll();
            }
        }
    }

    private void due(String call, long got, long want) {
        checks.due(name + call, got, want);
    }

    private void due(String call, boolean got, boolean want) {
        checks.due(name + call, got, want);
    }

    private String settings() {
        StringBuilder s = new StringBuilder();
        if (dice.nextInt(8) != 0) {
            s.append("buckets ").append(1 + dice.nextInt(dice.nextInt(3) == 0 ? 16 : 6)).append(';');
        }
        s.append("slots ").append(1 + dice.nextInt(4)).append(";\n");
        s.append("stash ").append(dice.nextInt(5)).append(" ;");
        s.append("depth ").append(dice.nextInt(dice.nextInt(3) == 0 ? 17 : 6)).append(';');
        s.append("tries ").append(dice.nextInt(5)).append(';');
        s.append("seed ").append(dice.nextInt(10000)).append(';');
        s.append("kick ").append(KICKS[dice.nextInt(3)]).append(';');
        s.append("full ").append(FULLS[dice.nextInt(4)]).append(';');
        if (dice.nextBoolean()) {
            s.append("one ").append(1 + dice.nextInt(1008)).append(' ').append(dice.nextInt(1009)).append(';');
            s.append("two ").append(1 + dice.nextInt(1008)).append(' ').append(dice.nextInt(1009)).append(';');
        }
        int has = dice.nextInt(4) == 0 ? dice.nextInt(25) : 0;
        for (int k = 0; k < has; k++) {
            s.append("has ").append(dice.nextInt(keys)).append(' ').append(dice.nextInt(1000)).append(';');
        }
        return s.toString();
    }

    private String scraps() {
        StringBuilder s = new StringBuilder();
        if (dice.nextBoolean()) {
            s.append(settings());
            int at = dice.nextInt(s.length());
            if (dice.nextBoolean()) {
                s.deleteCharAt(at);
            } else {
                s.insert(at, SCRAPS[dice.nextInt(SCRAPS.length)]);
            }
        } else {
            int many = dice.nextInt(6);
            for (int k = 0; k < many; k++) {
                s.append(SCRAPS[dice.nextInt(SCRAPS.length)]);
                s.append(dice.nextBoolean() ? " " : "");
            }
        }
        return s.toString();
    }

    private void tell(String text) {
        for (int at = 0; at < text.length(); at += 20) {
            int[] n = new int[5];
            for (int k = 0; k < 20; k++) {
                int c = at + k < text.length() ? text.charAt(at + k) : 32;
                n[k / 4] = n[k / 4] << 8 | c;
            }
            due("feed", map.feed(n[0], n[1], n[2], n[3], n[4]), model.feed(n[0], n[1], n[2], n[3], n[4]));
        }
        due("end", map.end(text.length()), model.end(text.length()));
        due("text of " + text, map.text(), model.text());
        due("fault(0) of " + text, map.fault(0), model.fault(0));
        due("fault(1) of " + text, map.fault(1), model.fault(1));
    }

    private int someKey() {
        return dice.nextInt(40) == 0 ? dice.nextInt(1200) - 100 : dice.nextInt(keys);
    }

    private int nearly(int most) {
        return dice.nextInt(most + 3) - 1;
    }

    private void change() {
        int key = someKey();
        int value = dice.nextInt(60) == 0 ? 1000 - dice.nextInt(2) * 1001 : dice.nextInt(1000);
        int n = dice.nextInt(15) - 1;
        int seed = dice.nextInt();
        int k = nearly(2);
        switch (dice.nextInt(16)) {
            case 0:
            case 1:
                due("drop(" + key + ")", map.drop(key), model.drop(key));
                break;
            case 2:
                due("settle()", map.settle(), model.settle());
                break;
            case 3:
                changeHashes();
                break;
            case 4:
                due("batch()", map.batch(), model.batch());
                break;
            case 5:
            case 6:
                due("load(" + seed + ", " + n + ")", map.load(seed, n), model.load(seed, n));
                break;
            case 7:
                due("image(" + k + ")", map.image(k), model.image(k));
                break;
            case 8:
                due("again(" + k + ")", map.again(k), model.again(k));
                break;
            case 9:
                due("get(" + key + ")", map.get(key), model.get(key));
                break;
            case 10:
                due("feed", map.feed(seed, n, key, k, value), model.feed(seed, n, key, k, value));
                due("end", map.end(n * 20), model.end(n * 20));
                break;
            default:
                due("put(" + key + ", " + value + ")", map.put(key, value), model.put(key, value));
                break;
        }
    }

    private void changeHashes() {
        int a = dice.nextInt(1012) - 1;
        int b = dice.nextInt(1012) - 1;
        int c = dice.nextInt(1012) - 1;
        int d = dice.nextInt(1012) - 1;
        due("rehash(" + a + ", " + b + ", " + c + ", " + d + ")", map.rehash(a, b, c, d), model.rehash(a, b, c, d));
    }

    private void ask() {
        int key = someKey();
        int n = dice.nextInt(15) - 1;
        int seed = dice.nextInt();
        int what = nearly(26);
        int k = nearly(3) - 1;
        switch (dice.nextInt(8)) {
            case 0:
                due("would(" + key + ")", map.would(key), model.would(key));
                break;
            case 1:
                due("tried", map.tried(seed, n, what), model.tried(seed, n, what));
                break;
            case 2:
                due("which(" + what % 8 + ")", map.which(what % 8), model.which(what % 8));
                break;
            case 3:
                due("chain(" + key + ", " + k + ")", map.chain(key, k), model.chain(key, k));
                break;
            case 4:
                due("fits(" + key + ")", map.fits(key), model.fits(key));
                break;
            case 5:
                due("least(" + what % 4 + ")", map.least(what % 4), model.least(what % 4));
                break;
            case 6:
                due("hash", map.hash(key, k > 0), model.hash(key, k > 0));
                break;
            default:
                due("lost(" + k + ")", map.lost(k), model.lost(k));
                break;
        }
    }

    private void askAll() {
        for (int what = -1; what < 28; what++) {
            due("count(" + what + ")", map.count(what), model.count(what));
        }
        for (int b = -1; b <= 17; b++) {
            int bucket = b == 17 ? 100 : b;
            for (int what = -1; what < 6; what++) {
                due("part(" + b + ", " + what + ")", map.part(b, what), model.part(b, what));
                for (int p = -1; p < 5; p++) {
                    due("at(" + bucket + ", " + p + ", " + what + ")",
                            map.at(bucket, p, what), model.at(bucket, p, what));
                }
            }
        }
        for (int k = -2; k < 70; k++) {
            due("key(" + k + ", false)", map.key(k, false), model.key(k, false));
            due("key(" + k + ", true)", map.key(k, true), model.key(k, true));
            int key = model.key(k, false);
            for (int what = -1; what < 7; what++) {
                due("find(" + key + ", " + what + ")", map.find(key, what), model.find(key, what));
            }
        }
        int peeled = model.peel(-1, 0);
        for (int k = -2; k <= peeled; k++) {
            for (int what = -1; what < 3; what++) {
                due("peel(" + k + ", " + what + ")", map.peel(k, what), model.peel(k, what));
            }
        }
        for (int many = -1; many < 6; many++) {
            due("filled(" + many + ")", map.filled(many), model.filled(many));
        }
        due("restless()", map.restless(), model.restless());
        due("over()", map.over(), model.over());
        for (int what = -1; what < 3; what++) {
            due("fault(" + what + ")", map.fault(what), model.fault(what));
        }
    }
}
