/** Promise 9: implication by preconditions. */
public final class Promise09Test {
  public static void main(String[] args) {
    variableOutsideIsFalse();
    boundLoopVariableIsOutside();
    constantOutsideIsFalse();
    onePrecondition();
    chainsOfPreconditions();
    tighterThanAnyOneConstant();
    sumsPastTheRangeAreNotCutOff();
    noSolutionImpliesEverything();
    barelySolvableDoesNot();
    withoutPreconditions();
    theTighterOfTwoWays();
    programAndLengthsDoNotCount();
    changesNothing();
    Due.finish();
  }

  private static void is(IndexTypeChecker t, int x, int y, int c, boolean due) {
    Due.is("implies(" + x + ", " + y + ", " + c + ")", t.implies(x, y, c) ? 1 : 0, due ? 1 : 0);
  }

  /** The least implied constant is c: asked at it and one step to either side. */
  private static void least(IndexTypeChecker t, int x, int y, int c) {
    is(t, x, y, c - 1, false);
    is(t, x, y, c, true);
    is(t, x, y, c + 1, true);
  }

  /** "It answers false, changing nothing, if x or y is not in 0..3". */
  private static void variableOutsideIsFalse() {
    for (int bad : Edges.outside(0, 3)) {
      Twins.refused("implies(" + bad + ", 0, 1000)", t -> t.implies(bad, 0, 1000));
      Twins.refused("implies(0, " + bad + ", 1000)", t -> t.implies(0, bad, 1000));
      Twins.refused("implies(" + bad + ", " + bad + ", 0)", t -> t.implies(bad, bad, 0));
    }
    Twins.refused("implies(0, 4, 0) in LOOP 4", States::open, t -> t.implies(0, 4, 0));
    Twins.refused("implies(4, 4, 0) in LOOP 4", States::open, t -> t.implies(4, 4, 0));
  }

  /** Contrary preconditions entail everything, so the answer false is due to the number alone. */
  private static void boundLoopVariableIsOutside() {
    for (int v = 4; v <= 7; v++) {
      for (int other = 0; other <= 7; other++) {
        for (int c : new int[] {-1000, 0, 1000}) {
          is(States.contraryAndOpen(), v, other, c, false);
          is(States.contraryAndOpen(), other, v, c, false);
        }
      }
    }
    for (int x = 0; x <= 3; x++) {
      for (int y = 0; y <= 3; y++) {
        is(States.contraryAndOpen(), x, y, -1000, true);
      }
    }
  }

  /** "or c is not in [-1000, 1000]". */
  private static void constantOutsideIsFalse() {
    for (int bad : Edges.noConstants()) {
      // The state contrary is among those asked: even there it is false.
      Twins.refused("implies(0, 0, " + bad + ")", t -> t.implies(0, 0, bad));
      Twins.refused("implies(1, 2, " + bad + ")", t -> t.implies(1, 2, bad));
    }
    IndexTypeChecker t = States.fresh();
    is(t, 0, 0, 1000, true);
    is(t, 0, 0, 999, true);
    is(t, 0, 0, -999, false);
    is(t, 0, 0, -1000, false);
  }

  /** "the stored preconditions entail x - y <= c". */
  private static void onePrecondition() {
    for (int x = 0; x < 4; x++) {
      for (int y = 0; y < 4; y++) {
        if (x == y) {
          continue;
        }
        for (int c : new int[] {-999, -1, 0, 1, 999}) {
          IndexTypeChecker t = States.fresh();
          t.addPre(x, y, c);
          least(t, x, y, c);
          is(t, y, x, 1000, false);
          is(t, y, x, -c, false);
        }
        IndexTypeChecker t = States.fresh();
        t.addPre(x, y, -1000);
        is(t, x, y, -1000, true);
        IndexTypeChecker u = States.fresh();
        u.addPre(x, y, 1000);
        is(u, x, y, 1000, true);
        is(u, x, y, 999, false);
      }
    }
  }

  private static void chainsOfPreconditions() {
    IndexTypeChecker t = States.fresh();
    t.addPre(3, 0, 10);
    t.addPre(2, 3, -5);
    t.addPre(1, 2, 3);
    least(t, 1, 2, 3);
    least(t, 2, 3, -5);
    least(t, 1, 3, -2);
    least(t, 3, 0, 10);
    least(t, 2, 0, 5);
    least(t, 1, 0, 8);
    for (int x = 0; x < 4; x++) {
      least(t, x, x, 0);
    }
    is(t, 0, 1, 1000, false);
    is(t, 2, 1, 1000, false);
  }

  private static void tighterThanAnyOneConstant() {
    IndexTypeChecker t = States.fresh();
    t.addPre(2, 0, -900);
    t.addPre(1, 2, -100);
    is(t, 1, 0, -999, true);
    is(t, 1, 0, -1000, true);
    t.clearPre();
    t.addPre(2, 0, -900);
    t.addPre(1, 2, -99);
    is(t, 1, 0, -999, true);
    is(t, 1, 0, -1000, false);
  }

  private static void sumsPastTheRangeAreNotCutOff() {
    IndexTypeChecker t = States.fresh();
    t.addPre(2, 0, 900);
    t.addPre(1, 2, 101);
    is(t, 1, 0, 1000, false);
    t.clearPre();
    t.addPre(2, 0, 900);
    t.addPre(1, 2, 100);
    is(t, 1, 0, 1000, true);
    is(t, 1, 0, 999, false);
    t.clearPre();
    // By way of 2000 and back to 0.
    t.addPre(1, 2, 1000);
    t.addPre(2, 3, 1000);
    t.addPre(3, 0, -1000);
    is(t, 1, 0, 1000, true);
    is(t, 1, 0, 999, false);
    // By way of -2000 and back.
    for (int more = 0; more <= 1; more++) {
      t.clearPre();
      t.addPre(1, 2, -1000 + more);
      t.addPre(2, 3, -1000);
      t.addPre(3, 0, 1000);
      is(t, 1, 0, -1000 + more, true);
      is(t, 1, 0, -1000, more == 0);
    }
  }

  /** "For valid arguments, if the stored preconditions have no integer solution, the answer is true." */
  private static void noSolutionImpliesEverything() {
    for (int x = 0; x < 4; x++) {
      for (int y = 0; y < 4; y++) {
        for (int c : Edges.constants()) {
          is(States.contrary(), x, y, c, true);
          IndexTypeChecker t = States.fresh();
          t.addPre(3, 3, -1);
          is(t, x, y, c, true);
        }
      }
    }
  }

  private static void barelySolvableDoesNot() {
    IndexTypeChecker t = States.fresh();
    t.addPre(1, 2, 0);
    t.addPre(2, 1, 0);
    least(t, 1, 2, 0);
    least(t, 2, 1, 0);
    is(t, 1, 3, 1000, false);
    is(t, 0, 1, 1000, false);
  }

  /** "implies(x, x, c) with x in 0..3 and c in [-1000, 1000] is true iff c >= 0." */
  private static void withoutPreconditions() {
    for (int x = 0; x < 4; x++) {
      for (int c = -1001; c <= 1001; c++) {
        is(States.fresh(), x, x, c, c >= 0 && c <= 1000);
      }
      for (int y = 0; y < 4; y++) {
        for (int c : Edges.constants()) {
          is(States.fresh(), x, y, c, x == y && c >= 0);
        }
      }
    }
  }

  private static void theTighterOfTwoWays() {
    for (int direct = 6; direct <= 8; direct++) {
      IndexTypeChecker t = States.fresh();
      t.addPre(1, 2, direct);
      t.addPre(1, 3, 4);
      t.addPre(3, 2, 3);
      least(t, 1, 2, Math.min(direct, 7));
    }
  }

  private static void programAndLengthsDoNotCount() {
    IndexTypeChecker t = States.fresh();
    t.addPre(1, 2, 5);
    Emit.when(t, 1, 2, -5);
    Emit.when(t, 1, 1, -1);
    t.declare(0, 1, 0);
    t.setParam(1, -9);
    least(t, 1, 2, 5);
    is(t, 0, 1, 1000, false);
  }

  /** "It changes nothing." */
  private static void changesNothing() {
    Twins.changesNothing("implies", t -> {
      t.implies(0, 0, 0);
      t.implies(1, 2, -1000);
      t.implies(2, 1, 1000);
      t.implies(3, 0, -1);
    });
  }
}
