/** The draws of promise 30, with longs. */
final class Draws {
    private long r;

    Draws(int seed) {
        r = seed & 0xFFFFFFFFL;
    }

    int next(int n) {
        r = (r * 1103515245L + 12345L) % (1L << 32);
        return (int) (r / 65536 % n);
    }
}
