/** The register as the document tells it, a bit at a time. */
final class Seeds {
    private Seeds() {
    }

    static int bit(int seed, int bits, int taps, int c, int t) {
        int now = seed;
        for (int cycle = 0; cycle < t; cycle++) {
            int sum = 0;
            for (int b = 0; b < bits; b++) {
                sum += (now >> b) & (taps >> b) & 1;
            }
            now = now / 2 + sum % 2 * (1 << (bits - 1));
        }
        return (now >> (3 * c % bits)) & 1;
    }
}
