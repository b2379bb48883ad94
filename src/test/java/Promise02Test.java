/** Promise 2: adding and clearing preconditions. */
public final class Promise02Test {
  public static void main(String[] args) {
    addPreIsRefusedOncePreCapAreStored();
    xOutsideIsRefused();
    xInsideIsStored();
    yOutsideIsRefused();
    yInsideIsStored();
    cOutsideIsRefused();
    cInsideIsStored();
    wrongInMoreThanOneWay();
    refusedOnesTakeNoRoom();
    duplicatesAreStoredAndCount();
    looserAndTighterAreBothStored();
    xEqualToYIsAllowed();
    addPreChangesNothingElse();
    clearPreMakesRoomForPreCapMore();
    clearPreRemovesAll();
    clearPreKeepsTheRest();
    clearPreOfNone();
    Due.finish();
  }

  /** "preCap preconditions are already stored": the last that fits, and the first that doesn't. */
  private static void addPreIsRefusedOncePreCapAreStored() {
    for (int cap = 4; cap <= 16; cap++) {
      IndexTypeChecker t = new IndexTypeChecker(8, cap);
      for (int n = 0; n < cap; n++) {
        Due.yes("addPre number " + (n + 1) + " of " + cap, t.addPre(0, 1, 0));
      }
      Due.no("addPre past preCap " + cap, t.addPre(1, 1, -1));
      Due.yes("the one past preCap is not stored", t.consistent());
      Due.no("addPre past preCap " + cap + " once more", t.addPre(0, 1, 0));
    }
    Twins.refused("addPre(1, 2, 3) when full", States::full, t -> t.addPre(1, 2, 3));
    Twins.refused("addPre(3, 3, -1) when full", States::full, t -> t.addPre(3, 3, -1));
    Twins.refused("addPre(0, 1, 0) when full", States::fullAndClosed, t -> t.addPre(0, 1, 0));
  }

  /** "x or y is not in 0..3". */
  private static void xOutsideIsRefused() {
    for (int x : Edges.outside(0, 3)) {
      Twins.refused("addPre(" + x + ", 0, 0)", t -> t.addPre(x, 0, 0));
    }
  }

  private static void xInsideIsStored() {
    for (int x = 0; x < 4; x++) {
      IndexTypeChecker t = States.fresh();
      Due.yes("addPre(" + x + ", 2, 5)", t.addPre(x, 2, 5));
      Due.yes("implies(" + x + ", 2, 5)", t.implies(x, 2, 5));
      Due.is("implies(" + x + ", 2, 4)", t.implies(x, 2, 4) ? 1 : 0, x == 2 ? 1 : 0);
    }
  }

  /** "x or y is not in 0..3". */
  private static void yOutsideIsRefused() {
    for (int y : Edges.outside(0, 3)) {
      Twins.refused("addPre(0, " + y + ", 0)", t -> t.addPre(0, y, 0));
    }
    // A loop variable that is bound is still none that a precondition may name.
    Twins.refused("addPre(4, 0, 0) in LOOP 4", States::open, t -> t.addPre(4, 0, 0));
    Twins.refused("addPre(0, 4, 0) in LOOP 4", States::open, t -> t.addPre(0, 4, 0));
  }

  private static void yInsideIsStored() {
    for (int y = 0; y < 4; y++) {
      IndexTypeChecker t = States.fresh();
      Due.yes("addPre(1, " + y + ", 5)", t.addPre(1, y, 5));
      Due.yes("implies(1, " + y + ", 5)", t.implies(1, y, 5));
      Due.is("implies(1, " + y + ", 4)", t.implies(1, y, 4) ? 1 : 0, y == 1 ? 1 : 0);
    }
  }

  /** "c is not in [-1000, 1000]". */
  private static void cOutsideIsRefused() {
    for (int c : Edges.noConstants()) {
      Twins.refused("addPre(1, 0, " + c + ")", t -> t.addPre(1, 0, c));
    }
  }

  private static void cInsideIsStored() {
    for (int c : new int[] {-1000, -999, -1, 0, 1, 999, 1000}) {
      IndexTypeChecker t = States.fresh();
      Due.yes("addPre(1, 0, " + c + ")", t.addPre(1, 0, c));
      Due.yes("implies(1, 0, " + c + ")", t.implies(1, 0, c));
      if (c > -1000) {
        Due.no("implies(1, 0, " + (c - 1) + ")", t.implies(1, 0, c - 1));
      }
      if (c < 1000) {
        Due.yes("implies(1, 0, " + (c + 1) + ")", t.implies(1, 0, c + 1));
      }
      t.setParam(1, c);
      Due.is("run where the precondition just holds", t.run(9), IndexTypeChecker.RUN_DONE);
      if (c < 1000) {
        t.setParam(1, c + 1);
        Due.is("run where it just fails", t.run(9), IndexTypeChecker.RUN_REFUSED);
      }
    }
  }

  private static void wrongInMoreThanOneWay() {
    Twins.refused("addPre(-1, 4, 0)", t -> t.addPre(-1, 4, 0));
    Twins.refused("addPre(4, 0, 1001)", t -> t.addPre(4, 0, 1001));
    Twins.refused("addPre(4, -1, -1001)", t -> t.addPre(4, -1, -1001));
  }

  /** "It is refused, answering false and changing nothing". */
  private static void refusedOnesTakeNoRoom() {
    IndexTypeChecker t = new IndexTypeChecker(8, 4);
    for (int n = 0; n < 4; n++) {
      t.addPre(4, 0, 0);
      t.addPre(0, -1, 0);
      t.addPre(0, 0, -1001);
      Due.yes("addPre number " + (n + 1) + " among refused ones", t.addPre(0, 1, 0));
    }
    Due.no("addPre past the four", t.addPre(0, 1, 0));
  }

  /** "Duplicates are stored as any other and count toward preCap." */
  private static void duplicatesAreStoredAndCount() {
    for (int cap = 4; cap <= 16; cap += 3) {
      IndexTypeChecker t = new IndexTypeChecker(8, cap);
      for (int n = 0; n < cap - 1; n++) {
        Due.yes("the same addPre, number " + (n + 1), t.addPre(2, 3, 7));
      }
      Due.yes("another in the last place", t.addPre(3, 2, -7));
      Due.no("the same past preCap", t.addPre(2, 3, 7));
      Due.yes("implies(2, 3, 7)", t.implies(2, 3, 7));
      Due.no("implies(2, 3, 6)", t.implies(2, 3, 6));
    }
  }

  private static void looserAndTighterAreBothStored() {
    for (int first = 4; first <= 6; first++) {
      for (int second = 4; second <= 6; second++) {
        IndexTypeChecker t = States.fresh();
        t.addPre(1, 2, first);
        t.addPre(1, 2, second);
        int tighter = Math.min(first, second);
        Due.yes("implies(1, 2, " + tighter + ")", t.implies(1, 2, tighter));
        Due.no("implies(1, 2, " + (tighter - 1) + ")", t.implies(1, 2, tighter - 1));
      }
    }
  }

  /** "x equal to y is allowed." */
  private static void xEqualToYIsAllowed() {
    for (int x = 0; x < 4; x++) {
      for (int c : new int[] {-1000, -1, 0, 1, 1000}) {
        IndexTypeChecker t = States.fresh();
        Due.yes("addPre(" + x + ", " + x + ", " + c + ")", t.addPre(x, x, c));
        Due.is("consistent() with " + x + " - " + x + " <= " + c, t.consistent() ? 1 : 0, c >= 0 ? 1 : 0);
        Due.is("run with " + x + " - " + x + " <= " + c, t.run(9),
            c >= 0 ? IndexTypeChecker.RUN_DONE : IndexTypeChecker.RUN_REFUSED);
      }
    }
  }

  /** "Nothing besides the stored preconditions changes." */
  private static void addPreChangesNothingElse() {
    for (String name : new String[] {"fresh", "trapped", "open", "closed"}) {
      Twins.same("preconditions added and cleared on " + name,
          Twins.after(States.of(name), t -> {
            t.addPre(1, 2, -3);
            t.addPre(0, 3, 1000);
            t.addPre(2, 2, -1);
            t.clearPre();
          }),
          Twins.after(States.of(name), IndexTypeChecker::clearPre));
    }
    IndexTypeChecker t = States.closed();
    t.addPre(3, 3, -1);
    Due.is("size() after addPre", t.size(), 7);
    Due.is("acc() after addPre", t.acc(), 41);
    Due.is("trapAt() after addPre", t.trapAt(), 2);
  }

  /** "clearPre() removes all preconditions, so that preCap more may be added afterward." */
  private static void clearPreMakesRoomForPreCapMore() {
    for (int cap = 4; cap <= 16; cap++) {
      for (int stored = 0; stored <= cap; stored++) {
        IndexTypeChecker t = new IndexTypeChecker(8, cap);
        for (int n = 0; n < stored; n++) {
          t.addPre(1, 1, -1);
        }
        t.clearPre();
        for (int n = 0; n < cap; n++) {
          Due.yes("addPre number " + (n + 1) + " after clearPre()", t.addPre(1, 0, 0));
        }
        Due.no("addPre past preCap after clearPre()", t.addPre(1, 0, 0));
        Due.yes("consistent() after clearPre()", t.consistent());
      }
    }
  }

  private static void clearPreRemovesAll() {
    IndexTypeChecker t = States.full();
    t.clearPre();
    Due.yes("consistent() after clearPre()", t.consistent());
    for (int x = 0; x < 4; x++) {
      for (int y = 0; y < 4; y++) {
        Due.is("implies(" + x + ", " + y + ", 1000) after clearPre()", t.implies(x, y, 1000) ? 1 : 0, x == y ? 1 : 0);
      }
    }
    IndexTypeChecker u = States.contrary();
    u.declare(0, 0, 16);
    Due.is("accessStatus(0) before clearPre()", u.accessStatus(0), IndexTypeChecker.ST_OK);
    Due.is("run before clearPre()", u.run(9), IndexTypeChecker.RUN_REFUSED);
    u.clearPre();
    Due.is("accessStatus(0) after clearPre()", u.accessStatus(0), IndexTypeChecker.ST_BOTH_FAIL);
    Due.is("run after clearPre()", u.run(9), IndexTypeChecker.RUN_TRAP);
  }

  /** "Nothing else changes: instructions, length terms, parameters, cells, acc() and trapAt() are kept." */
  private static void clearPreKeepsTheRest() {
    Twins.same("trapped, with its preconditions cleared and added again", Twins.after(States::trapped, t -> {
      t.clearPre();
      t.addPre(0, 1, 0);
      t.addPre(1, 2, -1);
    }), States::trapped);
    Twins.same("closed, with its preconditions cleared and added again", Twins.after(States::closed, t -> {
      t.clearPre();
      t.addPre(0, 1, 0);
      t.addPre(1, 2, -1);
    }), States::closed);
    Twins.same("full, with its preconditions cleared and added again", Twins.after(States::full, t -> {
      t.clearPre();
      t.addPre(0, 1, 0);
      t.addPre(1, 0, 9);
      t.addPre(2, 1, -1);
      t.addPre(0, 2, 7);
    }), States::full);
    IndexTypeChecker t = States.closed();
    t.clearPre();
    Due.is("size() after clearPre()", t.size(), 7);
    Due.is("acc() after clearPre()", t.acc(), 41);
    Due.is("trapAt() after clearPre()", t.trapAt(), 2);
    Due.is("cell(0, 2) after clearPre()", t.cell(0, 2), 41);
    Due.is("run after clearPre()", t.run(100), IndexTypeChecker.RUN_TRAP);
    Due.is("trapAt() of that run", t.trapAt(), 4);
  }

  private static void clearPreOfNone() {
    Twins.unchanged("clearPre() twice", Twins.after(States::closed, IndexTypeChecker::clearPre), IndexTypeChecker::clearPre);
  }
}
