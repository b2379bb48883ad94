/** Promise 11: checking the whole program. */
public final class Promise11Test {
  private static final int ACCEPTED = IndexTypeChecker.ACCEPTED;
  private static final int INCOMPLETE = IndexTypeChecker.INCOMPLETE;

  public static void main(String[] args) {
    incompleteWhileABlockIsOpen();
    incompleteComesBeforeAFailure();
    emptyProgramIsAccepted();
    programWithoutAccessesIsAccepted();
    leastFailingIndex();
    eachFailingStatusCounts();
    failureAtEitherEndOfAFullProgram();
    unreachableAccessesAreAccepted();
    contraryPreconditionsAcceptAll();
    acceptedRunDoesNotTrap();
    acceptedRunClearsTrapAt();
    refusedRunLeavesTrapAt();
    trapHasAFailingStatus();
    acceptedAtEveryLengthAndParameter();
    changesNothing();
    Due.finish();
  }

  /** "check() answers INCOMPLETE if a block is open." */
  private static void incompleteWhileABlockIsOpen() {
    for (int blocks = 1; blocks <= 16; blocks++) {
      IndexTypeChecker t = States.fresh();
      for (int n = 0; n < blocks; n++) {
        boolean opened = n < 4 ? Emit.loop(t, 4 + n, 0, 1) : Emit.when(t, 0, 0, 0);
        Due.yes("a block opens", opened);
        Due.is("check() in " + (n + 1) + " blocks", t.check(), INCOMPLETE);
      }
      for (int n = 1; n <= blocks; n++) {
        Emit.end(t);
        Due.is("check() with " + (blocks - n) + " blocks left", t.check(), n < blocks ? INCOMPLETE : ACCEPTED);
      }
    }
  }

  private static void incompleteComesBeforeAFailure() {
    IndexTypeChecker t = States.fresh();
    Emit.load(t, 0, 0, -1);
    Due.is("check() with a failure", t.check(), 0);
    Emit.when(t, 0, 0, 0);
    Due.is("check() with a failure and an open block", t.check(), INCOMPLETE);
    Emit.end(t);
    Due.is("check() with the block closed", t.check(), 0);
  }

  /** "An empty program is ACCEPTED." */
  private static void emptyProgramIsAccepted() {
    Due.is("check() on fresh", States.fresh().check(), ACCEPTED);
    Due.is("check() on trapped", States.trapped().check(), ACCEPTED);
    IndexTypeChecker t = States.contrary();
    t.clearProgram();
    Due.is("check() of nothing under contrary preconditions", t.check(), ACCEPTED);
    IndexTypeChecker u = States.open();
    u.clearProgram();
    Due.is("check() after clearProgram()", u.check(), ACCEPTED);
  }

  private static void programWithoutAccessesIsAccepted() {
    IndexTypeChecker t = States.fresh();
    Emit.set(t, 5);
    Emit.loop(t, 4, 0, 1000);
    Emit.set(t, 6);
    Emit.end(t);
    Due.is("check() without accesses", t.check(), ACCEPTED);
  }

  /** "the least k whose accessStatus(k) is ST_LOW_FAIL, ST_HIGH_FAIL or ST_BOTH_FAIL". */
  private static void leastFailingIndex() {
    for (int first = 0; first < 10; first++) {
      for (int second = first; second < 10; second++) {
        IndexTypeChecker t = States.fresh();
        t.declare(0, 0, 1);
        for (int k = 0; k < 10; k++) {
          Emit.load(t, 0, 0, k == first ? 1 : k == second ? -1 : 0);
        }
        Due.is("check() with failures at " + first + " and " + second, t.check(), first);
        t.declare(0, 0, 2);
        Due.is("check() once the first fits", t.check(), second == first ? ACCEPTED : second);
      }
    }
  }

  private static void eachFailingStatusCounts() {
    int[][] cases = {
      {0, -1, IndexTypeChecker.ST_LOW_FAIL}, {0, 0, IndexTypeChecker.ST_OK}, {0, 2, IndexTypeChecker.ST_OK},
      {0, 3, IndexTypeChecker.ST_HIGH_FAIL}, {1, 0, IndexTypeChecker.ST_BOTH_FAIL},
    };
    for (int op = 5; op <= 7; op++) {
      for (int[] one : cases) {
        IndexTypeChecker t = States.fresh();
        t.declare(0, 0, 3);
        Emit.set(t, 1);
        t.emit(op, 0, one[0], one[1]);
        Emit.set(t, 1);
        Due.is("accessStatus(1)", t.accessStatus(1), one[2]);
        Due.is("check() with status " + one[2], t.check(), one[2] == IndexTypeChecker.ST_OK ? ACCEPTED : 1);
      }
    }
  }

  private static void failureAtEitherEndOfAFullProgram() {
    for (int cap = 8; cap <= 32; cap += 8) {
      for (int fault : new int[] {0, 1, cap - 2, cap - 1, cap}) {
        IndexTypeChecker t = new IndexTypeChecker(cap, 4);
        t.declare(0, 0, 1);
        for (int k = 0; k < cap; k++) {
          Emit.load(t, 0, 0, k == fault ? 1 : 0);
        }
        Due.is("check() with a failure at " + fault + " of " + cap, t.check(), fault == cap ? ACCEPTED : fault);
      }
    }
  }

  private static void unreachableAccessesAreAccepted() {
    for (int c = -1; c <= 1; c++) {
      IndexTypeChecker t = States.fresh();
      Emit.loop(t, 4, 0, c);
      Emit.load(t, 0, 4, 0);
      Emit.end(t);
      Due.is("check() of an access in a LOOP to " + c, t.check(), c <= 0 ? ACCEPTED : 1);
    }
  }

  private static void contraryPreconditionsAcceptAll() {
    IndexTypeChecker t = States.contrary();
    Due.is("check() on contrary", t.check(), ACCEPTED);
    Due.is("run on contrary", t.run(100), IndexTypeChecker.RUN_REFUSED);
    t.clearPre();
    Due.is("check() without its preconditions", t.check(), 0);
  }

  /** acc() 8 and trapAt() 1, and then the program of a sum over 0..n-1 with its length n + more. */
  private static IndexTypeChecker sum(int more) {
    IndexTypeChecker t = States.fresh();
    Emit.set(t, 8);
    Emit.load(t, 0, 0, 0);
    t.run(9);
    t.clearProgram();
    t.addPre(0, 1, 0);
    t.declare(0, 1, more);
    Emit.loop(t, 4, 1, 0);
    Emit.add(t, 0, 4, 0);
    Emit.end(t);
    return t;
  }

  /** "that run answers RUN_DONE, RUN_OUT_OF_FUEL or RUN_REFUSED, never RUN_TRAP". */
  private static void acceptedRunDoesNotTrap() {
    for (int more = -1; more <= 1; more++) {
      IndexTypeChecker t = sum(more);
      t.setParam(1, 5);
      Due.is("check() with length n + " + more, t.check(), more >= 0 ? ACCEPTED : 1);
      Due.is("run(100)", t.run(100), more >= 0 ? IndexTypeChecker.RUN_DONE : IndexTypeChecker.RUN_TRAP);
      Due.is("run(10)", t.run(10), more >= 0 ? IndexTypeChecker.RUN_OUT_OF_FUEL : IndexTypeChecker.RUN_TRAP);
      Due.is("run(11)", t.run(11), more >= 0 ? IndexTypeChecker.RUN_DONE : IndexTypeChecker.RUN_TRAP);
    }
  }

  /** "if the run is not refused, trapAt() immediately after it answers -1". */
  private static void acceptedRunClearsTrapAt() {
    for (int fuel : new int[] {-1, 0, 1, 10, 11, 12}) {
      IndexTypeChecker t = sum(0);
      t.setParam(1, 5);
      Due.is("trapAt() before run(" + fuel + ")", t.trapAt(), 1);
      Due.is("run(" + fuel + ")", t.run(fuel), fuel >= 11 ? IndexTypeChecker.RUN_DONE : IndexTypeChecker.RUN_OUT_OF_FUEL);
      Due.is("trapAt() after run(" + fuel + ")", t.trapAt(), -1);
    }
  }

  /** "(a refused run leaves trapAt() as it was)". */
  private static void refusedRunLeavesTrapAt() {
    for (int n : new int[] {-1, 17}) {
      IndexTypeChecker t = sum(0);
      t.setParam(1, n);
      Due.is("check()", t.check(), ACCEPTED);
      Due.is("run with n = " + n, t.run(100), IndexTypeChecker.RUN_REFUSED);
      Due.is("trapAt() after it", t.trapAt(), 1);
      Due.is("acc() after it", t.acc(), 8);
    }
    for (int n : new int[] {0, 16}) {
      IndexTypeChecker t = sum(0);
      t.setParam(1, n);
      Due.is("run with n = " + n, t.run(100), IndexTypeChecker.RUN_DONE);
      Due.is("trapAt() after it", t.trapAt(), -1);
    }
  }

  /** "whenever run answers RUN_TRAP with trapAt() equal to k, accessStatus(k) at that moment is" a failure. */
  private static void trapHasAFailingStatus() {
    int[][] cases = {
      {0, -1, IndexTypeChecker.ST_LOW_FAIL}, {0, 3, IndexTypeChecker.ST_HIGH_FAIL}, {1, 3, IndexTypeChecker.ST_BOTH_FAIL},
    };
    for (int op = 5; op <= 7; op++) {
      for (int[] one : cases) {
        IndexTypeChecker t = States.fresh();
        t.declare(0, 0, 3);
        Emit.load(t, 0, 0, 2);
        t.emit(op, 0, one[0], one[1]);
        Due.is("run", t.run(9), IndexTypeChecker.RUN_TRAP);
        Due.is("trapAt()", t.trapAt(), 1);
        Due.is("accessStatus(trapAt())", t.accessStatus(t.trapAt()), one[2]);
      }
    }
  }

  /** The program is accepted once, and then no parameter makes it trap. */
  private static void acceptedAtEveryLengthAndParameter() {
    IndexTypeChecker t = States.fresh();
    t.addPre(1, 2, -1);
    t.declare(0, 1, 2);
    t.declare(1, 2, 0);
    Emit.loop(t, 4, 1, 1);
    Emit.load(t, 0, 4, 1);
    Emit.add(t, 1, 4, 0);
    Emit.when(t, 0, 4, -1);
    Emit.store(t, 1, 4, -1);
    Emit.end(t);
    Emit.end(t);
    Due.is("check()", t.check(), ACCEPTED);
    int done = 0;
    for (int n = -4; n <= 18; n++) {
      for (int m = -4; m <= 18; m++) {
        t.setParam(1, n);
        t.setParam(2, m);
        boolean fits = n - m <= -1 && n + 2 >= 0 && n + 2 <= 16 && m >= 0 && m <= 16;
        Due.is("run with n = " + n + " and m = " + m, t.run(1000),
            fits ? IndexTypeChecker.RUN_DONE : IndexTypeChecker.RUN_REFUSED);
        done += fits ? 1 : 0;
      }
    }
    Due.yes("many of them ran", done > 100);
  }

  /** "It changes nothing, so calling it at any point does not alter any later answer." */
  private static void changesNothing() {
    Twins.changesNothing("check()", IndexTypeChecker::check);
    Twins.same("check() between all calls", () -> {
      IndexTypeChecker t = States.trapped();
      t.check();
      Emit.load(t, 2, 0, 4);
      t.check();
      Emit.loop(t, 4, 1, 0);
      t.check();
      Emit.when(t, 0, 4, -1);
      t.check();
      Emit.add(t, 0, 4, -1);
      t.check();
      Emit.add(t, 1, 4, 9);
      t.check();
      return t;
    }, States::open);
  }
}
