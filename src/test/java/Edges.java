/** The values at the two ends of a range, and those one step to either side of them. */
final class Edges {
  static final int LOW = Integer.MIN_VALUE;
  static final int HIGH = Integer.MAX_VALUE;

  private Edges() {}

  static int[] inside(int least, int greatest) {
    return new int[] {least, least + 1, greatest - 1, greatest};
  }

  static int[] outside(int least, int greatest) {
    return new int[] {LOW, LOW + 1, least - 2, least - 1, greatest + 1, greatest + 2, HIGH - 1, HIGH};
  }

  static int[] constants() {
    return inside(-1000, 1000);
  }

  static int[] noConstants() {
    return outside(-1000, 1000);
  }
}
