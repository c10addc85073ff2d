/** Numbers drawn by a fixed rule: the same ones at each run of a test. */
final class Drawn {
    private long state;

    Drawn(long seed) {
        this.state = seed;
    }

    /** 0 .. below less 1. */
    int below(int below) {
        state = state * 6364136223846793005L + 1442695040888963407L;
        return (int) ((state >>> 33) % below);
    }

    /** Least .. most. */
    int from(int least, int most) {
        return least + below(most - least + 1);
    }

    /** Whether it is one of so many. */
    boolean oneOf(int many) {
        return below(many) == 0;
    }

    /** Any long. */
    long wide() {
        below(2);
        return state;
    }
}
