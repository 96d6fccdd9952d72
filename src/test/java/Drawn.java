/** What is DRAWN, reckoned in numbers of 64 bits without sign, not as the class does it. */
final class Drawn {
    private long seed;

    Drawn(int seed) {
        this.seed = seed & 0xffffffffL;
    }

    int below(int n) {
        seed = (seed * 1103515245L + 12345L) % 4294967296L;
        return (int) (seed / 65536 % n);
    }

    /** The seed as count(25) tells it. */
    int seed() {
        return (int) (seed >= 2147483648L ? seed - 4294967296L : seed);
    }

    static int seedAfter(int seed, int draws) {
        Drawn x = new Drawn(seed);
        for (int k = 0; k < draws; k++) {
            x.below(1);
        }
        return x.seed();
    }
}
