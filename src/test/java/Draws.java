/** The DRAWS that are due, told anew for the tests. */
final class Draws {
    private long seed;

    Draws(int seed) {
        this.seed = seed;
    }

    /** A DRAW below 12. */
    int next() {
        seed = (int) (seed * 1103515245L + 12345L);
        return (int) ((seed >> 16 & 0xFFFF) % 12);
    }

    int seed() {
        return (int) seed;
    }
}
