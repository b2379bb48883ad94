/** Made-up numbers that are the same each time, so that a failure can be seen again. */
final class Numbers {
  private long state;

  Numbers(long seed) {
    state = seed * 0x9E3779B97F4A7C15L + 1;
  }

  int between(int least, int greatest) {
    state = state * 6364136223846793005L + 1442695040888963407L;
    return least + (int) ((state >>> 33) % (greatest - least + 1));
  }

  boolean oneIn(int n) {
    return between(1, n) == 1;
  }

  int oneOf(int... choices) {
    return choices[between(0, choices.length - 1)];
  }
}
