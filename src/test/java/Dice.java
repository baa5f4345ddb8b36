/** Throws that are the same in every run. */
final class Dice {
    private long state;

    Dice(long seed) {
        state = seed * 0x9E3779B97F4A7C15L + 12345;
    }

    /** 0 to n - 1. */
    int below(int n) {
        state = state * 6364136223846793005L + 1442695040888963407L;
        return (int) ((state >>> 33) % n);
    }

    int between(int least, int greatest) {
        return least + below(greatest - least + 1);
    }

    boolean once(int in) {
        return below(in) == 0;
    }

    String oneOf(String... texts) {
        return texts[below(texts.length)];
    }
}
