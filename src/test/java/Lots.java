/** Lots by the document's rule, in longs. */
final class Lots {
    private long x;

    Lots(int seed) {
        x = seed;
    }

    int below16() {
        x = (x * 1103515245L + 12345L) & 0x7fffffffL;
        return (int) (x / 256 % 16);
    }

    /** A seed from which the so-many-th lot (from 1 on) is so. */
    static int seedWith(int place, int lot) {
        for (int seed = 0; seed <= 1000000; seed++) {
            Lots lots = new Lots(seed);
            int last = -1;
            for (int i = 0; i < place; i++) {
                last = lots.below16();
            }
            if (last == lot) {
                return seed;
            }
        }
        throw new IllegalStateException("no seed has lot " + lot);
    }
}
