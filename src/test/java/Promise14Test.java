/** Promise 14: program size. */
public final class Promise14Test {
  public static void main(String[] args) {
    zeroOnAFreshObject();
    grownByEachEmitThatAnswersTrue();
    notGrownByARefusedEmit();
    neverAboveProgramCap();
    zeroAfterClearProgram();
    otherCallsLeaveIt();
    askingChangesNothing();
    Due.finish();
  }

  /** "0 on a fresh object". */
  private static void zeroOnAFreshObject() {
    for (int cap : new int[] {Edges.LOW, 0, 7, 8, 9, 31, 32, 33, Edges.HIGH}) {
      Due.is("size() with programCap " + cap, new IndexTypeChecker(cap, 4).size(), 0);
    }
  }

  /** "grown by one by each emit that answers true". */
  private static void grownByEachEmitThatAnswersTrue() {
    IndexTypeChecker t = States.fresh();
    for (int n = 0; n < 32; n++) {
      int op = n % 4 == 0 ? 2 : n % 4 == 1 ? 4 : n % 4 == 2 ? 5 + n % 3 : 3;
      Due.yes("emit of op " + op, t.emit(op, 0, 0, 0));
      Due.is("size()", t.size(), n + 1);
    }
  }

  private static void notGrownByARefusedEmit() {
    for (int size = 0; size <= 32; size++) {
      IndexTypeChecker t = States.fresh();
      for (int n = 0; n < size; n++) {
        Emit.set(t, 0);
      }
      Due.no("an unknown op", t.emit(8, 0, 0, 0));
      Due.no("END without a block", Emit.end(t));
      Due.no("LOAD with a variable not bound", Emit.load(t, 0, 4, 0));
      Due.no("SET 1001", Emit.set(t, 1001));
      Due.is("size() after refused emits", t.size(), size);
    }
  }

  /** "and never above programCap". */
  private static void neverAboveProgramCap() {
    for (int cap = 7; cap <= 33; cap++) {
      IndexTypeChecker t = new IndexTypeChecker(cap, 4);
      int most = Math.max(8, Math.min(32, cap));
      for (int n = 1; n <= 40; n++) {
        Due.is("emit number " + n + " of " + most, Emit.set(t, 0) ? 1 : 0, n <= most ? 1 : 0);
        Due.is("size()", t.size(), Math.min(n, most));
      }
    }
  }

  /** "and after clearProgram()". */
  private static void zeroAfterClearProgram() {
    IndexTypeChecker t = States.fresh();
    for (int size : new int[] {0, 1, 2, 31, 32}) {
      for (int n = 0; n < size; n++) {
        Emit.when(t, 0, 0, 0);
      }
      Due.is("size()", t.size(), size);
      t.clearProgram();
      Due.is("size() after clearProgram()", t.size(), 0);
      t.clearProgram();
      Due.is("size() after clearProgram() twice", t.size(), 0);
    }
  }

  private static void otherCallsLeaveIt() {
    for (String name : States.names()) {
      IndexTypeChecker t = States.of(name).get();
      int size = t.size();
      t.addPre(1, 1, 0);
      t.clearPre();
      t.declare(0, 0, 1);
      t.setParam(1, 1);
      t.setCell(0, 0, 1);
      t.consistent();
      t.implies(0, 0, 0);
      t.accessStatus(0);
      t.check();
      t.run(100);
      t.cell(0, 0);
      t.acc();
      t.trapAt();
      Due.is("size() after other calls on " + name, t.size(), size);
    }
  }

  /** "It changes nothing." */
  private static void askingChangesNothing() {
    Twins.changesNothing("size()", IndexTypeChecker::size);
  }
}
