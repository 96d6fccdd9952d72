import java.util.HashSet;
import java.util.Set;

/** Keys by the buckets that they should have: with TEXT, three at least for every FIRST and SECOND. */
final class Pairs {
    /** FIRST is the key modulo the buckets, SECOND 236 times it modulo 1009, that modulo the buckets. */
    static final String TEXT = "one 1 0;two 236 0;";

    private final int buckets;
    private final Set<Integer> used = new HashSet<>();

    Pairs(int buckets) {
        this.buckets = buckets;
    }

    /** The least key with these buckets that was not asked for before. */
    int key(int first, int second) {
        for (int key = 0; key < 1000; key++) {
            if (key % buckets == first && 236 * key % 1009 % buckets == second && used.add(key)) {
                return key;
            }
        }
        throw new IllegalStateException("no further key of " + first + " and " + second);
    }
}
