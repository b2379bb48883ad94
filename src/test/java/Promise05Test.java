/** Promise 5: clearing the program. */
public final class Promise05Test {
  public static void main(String[] args) {
    allInstructionsAreRemoved();
    noBlockIsOpen();
    emptyProgramStaysEmpty();
    programCapMoreFitAfterwards();
    theRestIsKept();
    nothingOfTheFormerProgramIsLeft();
    Due.finish();
  }

  /** "removes all instructions, so size() becomes 0". */
  private static void allInstructionsAreRemoved() {
    for (int count = 0; count <= 32; count++) {
      IndexTypeChecker t = States.fresh();
      for (int k = 0; k < count; k++) {
        Emit.load(t, 0, 0, 5);
      }
      t.clearProgram();
      Due.is("size() after clearProgram() of " + count, t.size(), 0);
      for (int k = -1; k <= 32; k++) {
        Due.is("status of " + k + " after clearProgram()", t.accessStatus(k), IndexTypeChecker.ST_NOT_ACCESS);
      }
      Due.is("check() after clearProgram()", t.check(), IndexTypeChecker.ACCEPTED);
      Due.is("run(0) after clearProgram()", t.run(0), IndexTypeChecker.RUN_DONE);
    }
  }

  /** "and no block is open". */
  private static void noBlockIsOpen() {
    for (int blocks = 1; blocks <= 32; blocks++) {
      IndexTypeChecker t = States.fresh();
      for (int n = 0; n < blocks; n++) {
        boolean opened = n < 4 ? Emit.loop(t, 4 + n, 0, 1) : Emit.when(t, 4, 0, 0);
        Due.yes("block " + n + " opens", opened);
      }
      t.clearProgram();
      Due.is("check() after clearProgram() in " + blocks + " blocks", t.check(), IndexTypeChecker.ACCEPTED);
      Due.is("run after clearProgram()", t.run(9), IndexTypeChecker.RUN_DONE);
      Due.no("END after clearProgram()", Emit.end(t));
      for (int v = 4; v < 8; v++) {
        Due.no("LOAD with " + v + " after clearProgram()", Emit.load(t, 0, v, 0));
        Due.yes("LOOP " + v + " after clearProgram()", Emit.loop(t, v, 0, 1));
      }
    }
  }

  private static void emptyProgramStaysEmpty() {
    Twins.unchanged("clearProgram() on fresh", States::fresh, IndexTypeChecker::clearProgram);
    Twins.unchanged("clearProgram() on trapped", States::trapped, IndexTypeChecker::clearProgram);
  }

  private static void programCapMoreFitAfterwards() {
    for (int cap = 8; cap <= 32; cap++) {
      IndexTypeChecker t = new IndexTypeChecker(cap, 4);
      for (int stored = 0; stored <= cap; stored++) {
        t.clearProgram();
        for (int n = 0; n < cap; n++) {
          Due.yes("SET number " + (n + 1) + " of " + cap, Emit.set(t, 1));
        }
        Due.no("SET past programCap " + cap, Emit.set(t, 1));
        t.clearProgram();
        for (int n = 0; n < stored; n++) {
          Emit.set(t, 1);
        }
      }
    }
  }

  /** "Preconditions, length terms, parameters, cells, acc() and trapAt() are kept." */
  private static void theRestIsKept() {
    Twins.same("open, cleared", Twins.after(States::open, IndexTypeChecker::clearProgram), States::trapped);
    Twins.same("closed, cleared", Twins.after(States::closed, IndexTypeChecker::clearProgram), States::trapped);
    IndexTypeChecker t = States.closed();
    t.clearProgram();
    Due.is("acc() after clearProgram()", t.acc(), 41);
    Due.is("trapAt() after clearProgram()", t.trapAt(), 2);
    Due.is("cell(0, 2) after clearProgram()", t.cell(0, 2), 41);
    Due.is("cell(3, 15) after clearProgram()", t.cell(3, 15), 316);
    Due.yes("the preconditions are kept", t.implies(1, 2, -1));
    Due.no("the preconditions are kept as they were", t.implies(1, 2, -2));
    Emit.load(t, 0, 1, -1);
    Due.is("length term and parameter are kept", t.run(9), IndexTypeChecker.RUN_DONE);
    Due.is("acc() of the last cell under them", t.acc(), 41);
    Emit.load(t, 0, 1, 0);
    Due.is("and one past it", t.run(9), IndexTypeChecker.RUN_TRAP);
  }

  private static void nothingOfTheFormerProgramIsLeft() {
    Twins.same("a program emitted over a cleared one", Twins.after(States::trapped, t -> {
      Emit.when(t, 1, 1, -1);
      Emit.when(t, 1, 1, -1);
      Emit.end(t);
      Emit.loop(t, 4, 0, 1);
      Emit.end(t);
      Emit.end(t);
      t.clearProgram();
      Emit.load(t, 2, 0, 4);
      Emit.loop(t, 4, 1, 0);
      Emit.when(t, 0, 4, -1);
      Emit.add(t, 0, 4, -1);
      Emit.add(t, 1, 4, 9);
    }), States::open);
  }
}
