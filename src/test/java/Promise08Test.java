/** Promise 8: consistency of preconditions. */
public final class Promise08Test {
  public static void main(String[] args) {
    noneStoredIsConsistent();
    onePreconditionBetweenTwoVariables();
    onePreconditionOfAVariableWithItself();
    cyclesAtTheEdge();
    cyclesOfTheGreatestConstants();
    asManyAsPreCap();
    everyStoredPreconditionCounts();
    variable0IsHeldAtZero();
    onlyPreconditionsCount();
    doesNotWearOut();
    changesNothing();
    Due.finish();
  }

  /** "It answers true when none are stored." */
  private static void noneStoredIsConsistent() {
    IndexTypeChecker t = States.fresh();
    Due.yes("consistent() with none", t.consistent());
    t.addPre(1, 1, -1);
    Due.no("consistent() with x - x <= -1", t.consistent());
    t.clearPre();
    Due.yes("consistent() with none again", t.consistent());
    t.addPre(4, 4, -1);
    Due.yes("consistent() with a refused one", t.consistent());
  }

  private static void onePreconditionBetweenTwoVariables() {
    for (int x = 0; x < 4; x++) {
      for (int y = 0; y < 4; y++) {
        for (int c : new int[] {-1000, -999, -1, 0, 1, 999, 1000}) {
          IndexTypeChecker t = States.fresh();
          t.addPre(x, y, c);
          Due.is("consistent() with " + x + " - " + y + " <= " + c, t.consistent() ? 1 : 0, x != y || c >= 0 ? 1 : 0);
        }
      }
    }
  }

  private static void onePreconditionOfAVariableWithItself() {
    for (int x = 0; x < 4; x++) {
      for (int c = -1; c <= 1; c++) {
        IndexTypeChecker t = States.fresh();
        t.addPre(0, 1, 0);
        t.addPre(x, x, c);
        Due.is("consistent() with " + x + " - " + x + " <= " + c, t.consistent() ? 1 : 0, c >= 0 ? 1 : 0);
      }
    }
  }

  /** "some assignment of integers ... satisfies every stored precondition": cycles of sum -1, 0 and 1. */
  private static void cyclesAtTheEdge() {
    int[][] cycles = {
      {0, 1}, {1, 2}, {2, 3}, {3, 0}, {1, 3}, {0, 2},
      {0, 1, 2}, {0, 2, 1}, {1, 2, 3}, {3, 2, 1}, {0, 1, 3}, {0, 3, 2},
      {0, 1, 2, 3}, {0, 1, 3, 2}, {0, 2, 1, 3}, {0, 2, 3, 1}, {0, 3, 1, 2}, {0, 3, 2, 1},
    };
    int[] constants = {-400, 300, 250, -150};
    for (int[] cycle : cycles) {
      for (int sum = -1; sum <= 1; sum++) {
        for (int order = 0; order < 2; order++) {
          IndexTypeChecker t = States.fresh();
          addCycle(t, cycle, constants, sum, order == 1);
          Due.is("consistent() with a cycle of " + cycle.length + " and sum " + sum, t.consistent() ? 1 : 0, sum >= 0 ? 1 : 0);
        }
      }
    }
  }

  private static void addCycle(IndexTypeChecker t, int[] cycle, int[] constants, int sum, boolean backwards) {
    int length = cycle.length;
    int rest = sum;
    for (int n = 0; n < length - 1; n++) {
      rest -= constants[n];
    }
    for (int step = 0; step < length; step++) {
      int n = backwards ? length - 1 - step : step;
      Due.yes("addPre", t.addPre(cycle[n], cycle[(n + 1) % length], n < length - 1 ? constants[n] : rest));
    }
  }

  private static void cyclesOfTheGreatestConstants() {
    for (int c = 998; c <= 1000; c++) {
      IndexTypeChecker t = States.fresh();
      t.addPre(1, 2, -999);
      t.addPre(2, 1, c);
      Due.is("consistent() with -999 and " + c, t.consistent() ? 1 : 0, c >= 999 ? 1 : 0);
    }
    IndexTypeChecker t = States.fresh();
    t.addPre(3, 2, -1000);
    t.addPre(2, 1, -1000);
    t.addPre(1, 0, -1000);
    Due.yes("consistent() with a value of -3000", t.consistent());
    t.addPre(0, 3, 1000);
    Due.no("consistent() with a cycle of sum -2000", t.consistent());
    t.clearPre();
    t.addPre(3, 2, 1000);
    t.addPre(2, 1, 1000);
    t.addPre(1, 0, -1000);
    t.addPre(0, 3, -1000);
    Due.yes("consistent() with a cycle of sum 0", t.consistent());
    t.addPre(0, 2, -1);
    Due.no("consistent() with a cycle inside of sum -1", t.consistent());
  }

  private static void asManyAsPreCap() {
    for (int last = -1; last <= 1; last++) {
      IndexTypeChecker t = States.fresh();
      for (int n = 0; n < 15; n++) {
        t.addPre(n % 4, (n + 1) % 4, n % 4 == 3 ? -30 : 10);
      }
      Due.yes("the sixteenth precondition", t.addPre(3, 0, last - 30));
      Due.is("consistent() with sixteen", t.consistent() ? 1 : 0, last >= 0 ? 1 : 0);
    }
  }

  private static void everyStoredPreconditionCounts() {
    for (int place = 0; place < 16; place++) {
      IndexTypeChecker t = States.fresh();
      for (int n = 0; n < 16; n++) {
        t.addPre(2, 2, n == place ? -1 : 0);
      }
      Due.no("consistent() with the contrary one at " + place, t.consistent());
    }
  }

  /** "variable 0 being 0": it can be neither raised nor lowered. */
  private static void variable0IsHeldAtZero() {
    for (int c = -1; c <= 1; c++) {
      IndexTypeChecker t = States.fresh();
      t.addPre(0, 1, -6);
      t.addPre(1, 0, 6 + c);
      Due.is("consistent() with 6 <= n <= " + (6 + c), t.consistent() ? 1 : 0, c >= 0 ? 1 : 0);
      IndexTypeChecker u = States.fresh();
      u.addPre(0, 0, c);
      Due.is("consistent() with 0 - 0 <= " + c, u.consistent() ? 1 : 0, c >= 0 ? 1 : 0);
    }
  }

  private static void onlyPreconditionsCount() {
    IndexTypeChecker t = States.fresh();
    Emit.when(t, 1, 1, -1);
    Emit.loop(t, 4, 0, -1000);
    t.declare(0, 0, -1000);
    Due.yes("consistent() in blocks that never run", t.consistent());
    t.addPre(0, 1, 0);
    t.setParam(1, -1000);
    Due.yes("consistent() with parameters that break it", t.consistent());
  }

  /** A solver that went on from where the last question left it would overflow in time. */
  private static void doesNotWearOut() {
    for (int x = 0; x < 4; x++) {
      IndexTypeChecker t = States.fresh();
      t.addPre(x, x, -1000);
      int consistent = 0;
      for (int n = 0; n < 600000; n++) {
        consistent += t.consistent() ? 1 : 0;
      }
      Due.is("times that " + x + " - " + x + " <= -1000 was consistent", consistent, 0);
    }
  }

  /** "It changes nothing." */
  private static void changesNothing() {
    Twins.changesNothing("consistent()", IndexTypeChecker::consistent);
  }
}
