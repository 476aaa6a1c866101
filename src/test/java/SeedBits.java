/** Numbers by a seed, written from the document's words once more. */
final class SeedBits {
    private int z;
    /** How many numbers were too high since the seed. */
    int anew = 0;

    SeedBits(int seed) {
        z = seed;
    }

    int bit() {
        z = z * 1103515245 + 12345;
        return z >>> 16 & 1;
    }

    long below(long n) {
        int bits = n == 1 ? 0 : Long.toBinaryString(n - 1).length();
        long number = 0;
        for (int turn = 1; turn <= 30; turn++) {
            number = 0;
            for (int i = 0; i < bits; i++) {
                number = 2 * number + bit();
            }
            if (number < n) {
                return number;
            }
            anew++;
        }
        return number % n;
    }
}
