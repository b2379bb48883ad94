/** Promise 13: accumulator and trap index. */
public final class Promise13Test {
  public static void main(String[] args) {
    beforeAnyRun();
    theLastRunThatWasNotRefused();
    runWithoutATrap();
    refusedRunsLeaveBoth();
    clearingLeavesBoth();
    allOtherMethodsLeaveBoth();
    refusedCallsLeaveBoth();
    askingChangesNothing();
    Due.finish();
  }

  private static void are(String when, IndexTypeChecker t, int acc, int trapAt) {
    Due.is("acc() " + when, t.acc(), acc);
    Due.is("trapAt() " + when, t.trapAt(), trapAt);
    Due.is("acc() once more " + when, t.acc(), acc);
    Due.is("trapAt() once more " + when, t.trapAt(), trapAt);
  }

  /** "and 0 if there was none"; "and -1 if that run did not trap or there was none". */
  private static void beforeAnyRun() {
    are("on fresh", States.fresh(), 0, -1);
    are("on contrary", States.contrary(), 0, -1);
    IndexTypeChecker t = States.full();
    t.run(100);
    are("after refused runs only", t, 0, -1);
  }

  /** "acc() answers acc at the stop of the last run that was not refused". */
  private static void theLastRunThatWasNotRefused() {
    IndexTypeChecker t = States.fresh();
    Emit.set(t, 6);
    Emit.set(t, 7);
    Emit.load(t, 0, 0, 0);
    t.run(3);
    are("after a trap", t, 7, 2);
    t.run(1);
    are("after one step", t, 6, -1);
    t.run(2);
    are("after two steps", t, 7, -1);
    t.run(0);
    are("after no step", t, 0, -1);
    t.run(100);
    are("after a trap again", t, 7, 2);
    Emit.when(t, 0, 0, 0);
    t.run(100);
    are("after a refused run", t, 7, 2);
    Emit.end(t);
    t.declare(0, 0, 1);
    t.setCell(0, 0, -3);
    t.run(100);
    are("after a run to the end", t, -3, -1);
    t.declare(0, 0, 17);
    t.run(100);
    are("after a refused run", t, -3, -1);
    t.declare(0, 0, 16);
    t.clearProgram();
    t.run(100);
    are("after a run of nothing", t, 0, -1);
  }

  private static void runWithoutATrap() {
    IndexTypeChecker t = States.trapped();
    are("on trapped", t, 41, 2);
    t.run(100);
    are("after a run of nothing", t, 0, -1);
    IndexTypeChecker u = States.closed();
    u.run(100);
    // LOAD gives 205, and at i = 1 ADD of cell 0 gives 1 more, before the trap at i + 9.
    are("after the trap of closed", u, 206, 4);
    u.run(1);
    are("after one step of closed", u, 205, -1);
  }

  /** "Refused runs ... leave both answers unchanged." */
  private static void refusedRunsLeaveBoth() {
    for (int fuel : new int[] {Edges.LOW, -1, 0, 1, 10000, Edges.HIGH}) {
      IndexTypeChecker block = States.open();
      Due.is("run with a block open", block.run(fuel), IndexTypeChecker.RUN_REFUSED);
      are("after a run refused for a block", block, 41, 2);
      IndexTypeChecker precondition = States.closed();
      precondition.setParam(1, -1);
      Due.is("run with a precondition false", precondition.run(fuel), IndexTypeChecker.RUN_REFUSED);
      are("after a run refused for a precondition", precondition, 41, 2);
      for (int length : new int[] {-1, 17}) {
        IndexTypeChecker wrong = States.closed();
        wrong.declare(3, 0, length);
        Due.is("run with a length of " + length, wrong.run(fuel), IndexTypeChecker.RUN_REFUSED);
        are("after a run refused for a length", wrong, 41, 2);
      }
    }
  }

  /** "clearProgram, clearPre ... leave both answers unchanged." */
  private static void clearingLeavesBoth() {
    for (String name : new String[] {"trapped", "open", "closed"}) {
      IndexTypeChecker t = States.of(name).get();
      t.clearProgram();
      are("after clearProgram()", t, 41, 2);
      t.clearPre();
      are("after clearPre()", t, 41, 2);
    }
  }

  /** "and all other methods leave both answers unchanged." */
  private static void allOtherMethodsLeaveBoth() {
    IndexTypeChecker t = States.trapped();
    t.addPre(1, 1, 0);
    are("after addPre", t, 41, 2);
    t.declare(0, 0, 3);
    are("after declare", t, 41, 2);
    for (int op = 1; op <= 7; op++) {
      t.emit(op, op == 1 ? 4 : 0, 0, 0);
      are("after emit of op " + op, t, 41, 2);
    }
    t.setParam(1, 3);
    are("after setParam", t, 41, 2);
    t.setCell(0, 0, 77);
    are("after setCell", t, 41, 2);
    t.consistent();
    are("after consistent()", t, 41, 2);
    t.implies(1, 1, 0);
    are("after implies", t, 41, 2);
    t.accessStatus(4);
    are("after accessStatus", t, 41, 2);
    t.check();
    are("after check()", t, 41, 2);
    t.cell(0, 0);
    are("after cell", t, 41, 2);
    t.size();
    are("after size()", t, 41, 2);
  }

  private static void refusedCallsLeaveBoth() {
    IndexTypeChecker t = States.open();
    t.addPre(4, 0, 0);
    t.declare(4, 0, 0);
    t.emit(0, 0, 0, 0);
    t.emit(4, 0, 0, 1001);
    t.setParam(0, 0);
    t.setCell(4, 0, 0);
    t.implies(4, 0, 0);
    t.accessStatus(-1);
    t.cell(4, 0);
    are("after refused calls", t, 41, 2);
  }

  /** "Neither call changes anything." */
  private static void askingChangesNothing() {
    Twins.changesNothing("acc()", IndexTypeChecker::acc);
    Twins.changesNothing("trapAt()", IndexTypeChecker::trapAt);
  }
}
