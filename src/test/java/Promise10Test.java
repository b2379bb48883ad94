/** Promise 10: the status of an access. */
public final class Promise10Test {
  private static final int NOT_ACCESS = IndexTypeChecker.ST_NOT_ACCESS;
  private static final int OK = IndexTypeChecker.ST_OK;
  private static final int LOW_FAIL = IndexTypeChecker.ST_LOW_FAIL;
  private static final int HIGH_FAIL = IndexTypeChecker.ST_HIGH_FAIL;
  private static final int BOTH_FAIL = IndexTypeChecker.ST_BOTH_FAIL;

  public static void main(String[] args) {
    indexOutsideTheProgram();
    indexInAFullProgram();
    indexOfAnInstructionNoLongerThere();
    otherInstructions();
    eachStatusAtItsEdge();
    eachStatusUnderParameters();
    loopsCount();
    ifsCount();
    preconditionsCount();
    everyEnclosingBlockCounts();
    openBlocksCount();
    closedBlocksDoNotCount();
    loopVariableUsedAgainKeepsNoOldBound();
    lengthAtTheTimeOfTheCall();
    contextWithoutSolutionIsOk();
    contextBarelySolvableIsNot();
    longestChain();
    slowestContext();
    deepestNest();
    everyBlockOfTheDeepestNestCounts();
    greatestConstants();
    farthestWayToUpper();
    farthestWayToLower();
    changesNothing();
    Due.finish();
  }

  private static void is(IndexTypeChecker t, int k, int due) {
    Due.is("accessStatus(" + k + ")", t.accessStatus(k), due);
  }

  private static void is(String what, IndexTypeChecker t, int k, int due) {
    Due.is(what + ": accessStatus(" + k + ")", t.accessStatus(k), due);
  }

  /** "ST_NOT_ACCESS if k is not in 0..size()-1". */
  private static void indexOutsideTheProgram() {
    is(States.fresh(), 0, NOT_ACCESS);
    is(States.fresh(), -1, NOT_ACCESS);
    for (int size = 1; size <= 32; size++) {
      IndexTypeChecker t = States.fresh();
      for (int k = 0; k < size; k++) {
        Emit.load(t, 0, 0, 0);
      }
      for (int k : Edges.outside(0, size - 1)) {
        is("a program of " + size, t, k, NOT_ACCESS);
      }
      for (int k = 0; k < size; k++) {
        is("a program of " + size, t, k, HIGH_FAIL);
      }
    }
  }

  private static void indexInAFullProgram() {
    for (int cap = 8; cap <= 32; cap += 8) {
      IndexTypeChecker t = new IndexTypeChecker(cap, 4);
      while (Emit.store(t, 3, 0, -1)) {
        is(t, t.size() - 1, LOW_FAIL);
      }
      is("full", t, cap - 1, LOW_FAIL);
      is("full", t, cap, NOT_ACCESS);
    }
  }

  private static void indexOfAnInstructionNoLongerThere() {
    IndexTypeChecker t = States.fresh();
    for (int k = 0; k < 32; k++) {
      Emit.load(t, 0, 0, 0);
    }
    t.clearProgram();
    for (int k = 0; k < 32; k++) {
      is("cleared", t, k, NOT_ACCESS);
    }
    Emit.load(t, 0, 0, 0);
    is("cleared and one emitted", t, 0, HIGH_FAIL);
    is("cleared and one emitted", t, 1, NOT_ACCESS);
  }

  /** "or instruction k is not LOAD, ADD or STORE". */
  private static void otherInstructions() {
    IndexTypeChecker t = States.fresh();
    Emit.loop(t, 4, 0, 1);
    Emit.when(t, 4, 0, 0);
    Emit.set(t, 1);
    Emit.end(t);
    Emit.end(t);
    Emit.load(t, 0, 0, 0);
    Emit.add(t, 0, 0, 0);
    Emit.store(t, 0, 0, 0);
    for (int k = 0; k < 8; k++) {
      is(t, k, k < 5 ? NOT_ACCESS : HIGH_FAIL);
    }
  }

  /** The five answers, for each access, at each end of an array of known length. */
  private static void eachStatusAtItsEdge() {
    for (int op = 5; op <= 7; op++) {
      for (int a = 0; a < 4; a++) {
        for (int length = -2; length <= 3; length++) {
          IndexTypeChecker t = States.fresh();
          t.declare(a, 0, length);
          for (int s = -3; s <= 4; s++) {
            int k = t.size();
            t.emit(op, a, 0, s);
            is("subscript " + s + " of " + length, t, k, status(s >= 0, s < length));
          }
        }
      }
    }
  }

  private static int status(boolean lower, boolean upper) {
    return lower ? (upper ? OK : HIGH_FAIL) : (upper ? LOW_FAIL : BOTH_FAIL);
  }

  /** n lies in [2, 5] and the length is n + 1, or 6, or m with m >= n. */
  private static void eachStatusUnderParameters() {
    IndexTypeChecker t = States.fresh();
    t.addPre(0, 1, -2);
    t.addPre(1, 0, 5);
    t.addPre(1, 2, 0);
    t.declare(0, 1, 1);
    t.declare(1, 0, 6);
    t.declare(2, 2, 0);
    for (int s = -4; s <= 3; s++) {
      t.clearProgram();
      Emit.load(t, 0, 1, s);
      Emit.add(t, 1, 1, s);
      Emit.store(t, 2, 1, s);
      is("n + " + s + " of n + 1", t, 0, status(s >= -2, s <= 0));
      is("n + " + s + " of 6", t, 1, status(s >= -2, s <= 0));
      is("n + " + s + " of m", t, 2, status(s >= -2, s <= -1));
    }
    for (int s = -2; s <= 4; s++) {
      t.clearProgram();
      Emit.load(t, 0, 0, s);
      Emit.load(t, 2, 0, s);
      is(s + " of n + 1, which is 3 or more", t, 0, status(s >= 0, s <= 2));
      is(s + " of m, which is 2 or more", t, 1, status(s >= 0, s <= 1));
    }
  }

  private static void loopsCount() {
    IndexTypeChecker t = States.fresh();
    t.declare(0, 1, 0);
    Emit.loop(t, 4, 1, 0);
    Emit.load(t, 0, 4, -1);
    Emit.load(t, 0, 4, 0);
    Emit.load(t, 0, 4, 1);
    Emit.loop(t, 5, 4, 1);
    Emit.load(t, 0, 5, -1);
    Emit.load(t, 0, 5, 0);
    Emit.load(t, 0, 5, 1);
    Emit.end(t);
    Emit.end(t);
    is("i - 1", t, 1, LOW_FAIL);
    is("i of 0..n-1", t, 2, OK);
    is("i + 1", t, 3, HIGH_FAIL);
    is("j - 1", t, 5, LOW_FAIL);
    is("j of 0..i", t, 6, OK);
    is("j + 1", t, 7, HIGH_FAIL);
    // That a body runs shows that the loop's bound is above 0, so n - 1 is an index there.
    t.clearProgram();
    Emit.loop(t, 7, 1, 0);
    Emit.load(t, 0, 1, -1);
    Emit.load(t, 0, 0, 0);
    Emit.load(t, 0, 0, 1);
    Emit.load(t, 0, 1, -2);
    Emit.end(t);
    Emit.load(t, 0, 0, 0);
    is("n - 1 in the loop", t, 1, OK);
    is("0 in the loop", t, 2, OK);
    is("1 in the loop", t, 3, HIGH_FAIL);
    is("n - 2 in the loop", t, 4, LOW_FAIL);
    is("0 after the loop", t, 6, HIGH_FAIL);
  }

  private static void ifsCount() {
    for (int c = -2; c <= 0; c++) {
      IndexTypeChecker t = States.fresh();
      t.declare(0, 1, 0);
      Emit.loop(t, 4, 2, 0);
      Emit.when(t, 4, 1, c);
      Emit.store(t, 0, 4, 0);
      Emit.end(t);
      Emit.when(t, 0, 4, c);
      Emit.store(t, 0, 4, -1);
      is("i where i <= n + " + c, t, 2, status(true, c <= -1));
      is("i - 1 where 0 - i <= " + c, t, 5, status(c <= -1, false));
    }
  }

  /** "all stored preconditions". */
  private static void preconditionsCount() {
    IndexTypeChecker t = States.fresh();
    t.declare(0, 2, 0);
    Emit.loop(t, 4, 1, 0);
    Emit.load(t, 0, 4, 0);
    Emit.end(t);
    is("without preconditions", t, 1, HIGH_FAIL);
    for (int c = -1; c <= 1; c++) {
      t.clearPre();
      t.addPre(1, 3, -2);
      t.addPre(3, 2, 2 + c);
      is("with n <= m + " + c, t, 1, c <= 0 ? OK : HIGH_FAIL);
    }
    t.clearPre();
    is("after clearPre()", t, 1, HIGH_FAIL);
    for (int n = 0; n < 15; n++) {
      t.addPre(1, 2, 1);
    }
    is("with fifteen that do not help", t, 1, HIGH_FAIL);
    t.addPre(1, 2, 0);
    is("with a sixteenth that does", t, 1, OK);
  }

  /** "the constraints of every block enclosing k": each of three is needed. */
  private static void everyEnclosingBlockCounts() {
    for (int without = 0; without <= 3; without++) {
      IndexTypeChecker t = States.fresh();
      t.declare(0, 0, 4);
      for (int block = 1; block <= 3; block++) {
        // 1 - 2 <= 1, 2 - 3 <= 1 and 3 - 0 <= 1 give 1 - 0 <= 3.
        Emit.when(t, block, block == 3 ? 0 : block + 1, block == without ? 2 : 1);
      }
      Emit.load(t, 0, 1, 0);
      is("with block " + without + " looser", t, 3, without == 0 ? LOW_FAIL : BOTH_FAIL);
    }
  }

  /** "Open blocks are allowed: an open block opened before k encloses k." */
  private static void openBlocksCount() {
    IndexTypeChecker t = States.fresh();
    t.declare(0, 0, 4);
    Emit.loop(t, 4, 0, 4);
    Emit.load(t, 0, 4, 0);
    Emit.load(t, 0, 4, -1);
    Emit.when(t, 0, 4, -1);
    Emit.load(t, 0, 4, -1);
    is("in an open LOOP", t, 1, OK);
    is("before the open IF", t, 2, LOW_FAIL);
    is("in an open LOOP and IF", t, 4, OK);
    Emit.end(t);
    Emit.load(t, 0, 4, -1);
    is("in the IF that was closed since", t, 4, OK);
    is("after the IF", t, 6, LOW_FAIL);
    Emit.end(t);
    is("in the LOOP that was closed since", t, 1, OK);
  }

  private static void closedBlocksDoNotCount() {
    IndexTypeChecker t = States.fresh();
    t.declare(0, 0, 4);
    Emit.load(t, 0, 1, 0);
    Emit.when(t, 1, 0, 3);
    Emit.load(t, 0, 1, 0);
    Emit.when(t, 0, 1, 0);
    Emit.load(t, 0, 1, 0);
    Emit.end(t);
    Emit.load(t, 0, 1, 0);
    Emit.end(t);
    Emit.load(t, 0, 1, 0);
    is("before both IFs", t, 0, BOTH_FAIL);
    is("in the outer IF", t, 2, LOW_FAIL);
    is("in both IFs", t, 4, OK);
    is("in the outer IF again", t, 6, LOW_FAIL);
    is("after both IFs", t, 8, BOTH_FAIL);
  }

  private static void loopVariableUsedAgainKeepsNoOldBound() {
    for (int second = 3; second <= 5; second++) {
      IndexTypeChecker t = States.fresh();
      t.declare(0, 0, 4);
      Emit.loop(t, 4, 0, 2);
      Emit.end(t);
      Emit.loop(t, 4, 0, second);
      Emit.load(t, 0, 4, 0);
      Emit.end(t);
      is("in the second loop, to " + second, t, 3, second <= 4 ? OK : HIGH_FAIL);
    }
  }

  /** "the length term of the accessed array at the time of the call". */
  private static void lengthAtTheTimeOfTheCall() {
    IndexTypeChecker t = States.fresh();
    t.declare(0, 0, 9);
    Emit.load(t, 0, 0, 5);
    is("length 9", t, 0, OK);
    for (int length = 4; length <= 7; length++) {
      t.declare(0, 0, length);
      is("length " + length, t, 0, length > 5 ? OK : HIGH_FAIL);
    }
    for (int a = 1; a < 4; a++) {
      t.declare(a, 0, 0);
      is("another array's length is 0", t, 0, OK);
    }
  }

  /** "If the context of k has no integer solution, both obligations hold and the answer is ST_OK." */
  private static void contextWithoutSolutionIsOk() {
    IndexTypeChecker t = States.fresh();
    Emit.when(t, 3, 3, -1);
    Emit.load(t, 0, 1, 500);
    Emit.end(t);
    Emit.loop(t, 4, 0, 0);
    Emit.add(t, 1, 2, -500);
    Emit.end(t);
    Emit.loop(t, 4, 0, 1);
    Emit.when(t, 0, 4, -1);
    Emit.store(t, 1, 2, -500);
    Emit.end(t);
    Emit.end(t);
    Emit.load(t, 0, 1, 0);
    is("in IF x - x <= -1", t, 1, OK);
    is("in a LOOP to 0", t, 4, OK);
    is("in IF i >= 1 in a LOOP to 1", t, 8, OK);
    is("outside", t, 11, BOTH_FAIL);
    t.addPre(2, 2, -1);
    is("under contrary preconditions", t, 11, OK);
    Due.is("accessStatus(0) on contrary", States.contrary().accessStatus(0), OK);
  }

  private static void contextBarelySolvableIsNot() {
    for (int c = -1; c <= 1; c++) {
      IndexTypeChecker t = States.fresh();
      Emit.when(t, 3, 3, c);
      Emit.load(t, 0, 1, 500);
      is("in IF x - x <= " + c, t, 1, c < 0 ? OK : BOTH_FAIL);
      t.clearProgram();
      Emit.loop(t, 4, 0, c);
      Emit.load(t, 0, 1, 500);
      is("in a LOOP to " + c, t, 1, c <= 0 ? OK : BOTH_FAIL);
      t.clearProgram();
      Emit.loop(t, 4, 0, 2 + c);
      Emit.when(t, 0, 4, -2);
      Emit.load(t, 0, 1, 500);
      is("in IF i >= 2 in a LOOP to " + (2 + c), t, 2, c <= 0 ? OK : BOTH_FAIL);
      t.clearProgram();
      t.addPre(1, 2, -1);
      Emit.when(t, 2, 1, 1 + c);
      Emit.load(t, 0, 3, 500);
      is("in IF against a precondition", t, 1, c < 0 ? OK : BOTH_FAIL);
    }
  }

  /** The proof of each bound needs all eight variables, in either order of gathering. */
  private static void longestChain() {
    for (int slack = -1; slack <= 1; slack++) {
      IndexTypeChecker up = States.fresh();
      up.declare(0, 0, 2);
      up.addPre(1, 0, 5 + slack);
      up.addPre(2, 1, 0);
      up.addPre(3, 2, 0);
      Emit.loop(up, 4, 3, 0);
      Emit.loop(up, 5, 4, 0);
      Emit.loop(up, 6, 5, 0);
      Emit.loop(up, 7, 6, 0);
      Emit.load(up, 0, 7, 0);
      is("upwards, slack " + slack, up, 4, slack <= 0 ? OK : HIGH_FAIL);
      IndexTypeChecker down = States.fresh();
      down.declare(0, 0, 2);
      down.addPre(3, 2, 0);
      down.addPre(2, 1, 0);
      down.addPre(1, 0, 5 + slack);
      Emit.loop(down, 7, 3, 0);
      Emit.loop(down, 6, 7, 0);
      Emit.loop(down, 5, 6, 0);
      Emit.loop(down, 4, 5, 0);
      Emit.load(down, 0, 4, 0);
      is("downwards, slack " + slack, down, 4, slack <= 0 ? OK : HIGH_FAIL);
    }
  }

  /**
   * The order 0 < 3 < 2 < 4 < 5 < 6 < 1 < 7, told from its far end, so that a solver that goes
   * through the constraints as they stand learns one step of it a round.
   */
  private static void slowestContext() {
    IndexTypeChecker t = States.fresh();
    t.declare(0, 1, 1);
    t.addPre(0, 3, -1);
    t.addPre(3, 2, -1);
    for (int v = 4; v < 8; v++) {
      Emit.loop(t, v, 0, 1000);
    }
    Emit.when(t, 2, 4, -1);
    Emit.when(t, 4, 5, -1);
    Emit.when(t, 5, 6, -1);
    Emit.when(t, 6, 1, -1);
    Emit.load(t, 0, 7, 0);
    is("7 may be above 1", t, 8, HIGH_FAIL);
    Emit.when(t, 7, 1, 0);
    Emit.load(t, 0, 7, 0);
    is("7 is not above 1", t, 10, OK);
  }

  /** As many constraints as can be: sixteen preconditions and 31 blocks. */
  private static void deepestNest() {
    IndexTypeChecker t = States.fresh();
    for (int n = 0; n < 16; n++) {
      t.addPre(n % 4, (n + 1) % 4, 1000);
    }
    for (int v = 4; v < 8; v++) {
      Emit.loop(t, v, 0, 1000);
    }
    for (int n = 0; n < 27; n++) {
      Emit.when(t, 4 + n % 4, 0, 999 - n);
    }
    Due.yes("the last instruction", Emit.load(t, 0, 6, 0));
    for (int length = 973; length <= 975; length++) {
      t.declare(0, 0, length);
      is("31 blocks deep, length " + length, t, 31, length < 974 ? HIGH_FAIL : OK);
    }
  }

  /** "the constraints of every block enclosing k": of 31, the one that is needed stands at each place. */
  private static void everyBlockOfTheDeepestNestCounts() {
    for (int place = 0; place <= 31; place++) {
      IndexTypeChecker t = States.fresh();
      t.declare(0, 0, 4);
      t.addPre(0, 1, 0);
      for (int block = 0; block < 31; block++) {
        Emit.when(t, 1, 0, block == place ? 3 : 4);
      }
      Due.yes("the last instruction", Emit.load(t, 0, 1, 0));
      is("with the tighter block at " + place, t, 31, place < 31 ? OK : HIGH_FAIL);
    }
  }

  private static void greatestConstants() {
    IndexTypeChecker t = States.fresh();
    t.declare(0, 1, 1000);
    Emit.loop(t, 4, 1, 1000);
    Emit.load(t, 0, 4, 0);
    Emit.load(t, 0, 4, 1000);
    Emit.load(t, 0, 4, -1000);
    is("i of n + 1000", t, 1, OK);
    is("i + 1000 of n + 1000", t, 2, HIGH_FAIL);
    is("i - 1000 of n + 1000", t, 3, LOW_FAIL);
    t.declare(0, 1, -1000);
    is("i + 1000 of n - 1000", t, 2, HIGH_FAIL);
    is("i - 1000 of n - 1000", t, 3, BOTH_FAIL);
    // With lc = -1000 and c = 1000, UPPER asks for n - m <= -2001.
    for (int more = -1; more <= 1; more++) {
      IndexTypeChecker u = States.fresh();
      u.declare(0, 2, -1000);
      Emit.load(u, 0, 1, 1000);
      u.addPre(1, 3, -1000);
      u.addPre(3, 0, -999);
      u.addPre(0, 2, -2 + more);
      is("n - m <= " + (-2001 + more) + " known", u, 0, more <= 0 ? LOW_FAIL : BOTH_FAIL);
    }
    // With lc = 1000 and c = -1000, UPPER asks for n - m <= 1999.
    for (int more = -1; more <= 1; more++) {
      IndexTypeChecker u = States.fresh();
      u.declare(0, 2, 1000);
      Emit.load(u, 0, 1, -1000);
      u.addPre(1, 3, 999 + more);
      u.addPre(3, 2, 1000);
      is("n - m <= " + (1999 + more) + " known", u, 0, more <= 0 ? LOW_FAIL : BOTH_FAIL);
    }
  }

  /** 3 - 0 <= 1999 + slack, by way of all eight variables and of a sum of 3998. */
  private static void farthestWayToUpper() {
    for (int slack = -1; slack <= 1; slack++) {
      IndexTypeChecker t = States.fresh();
      t.declare(0, 0, 1000);
      t.addPre(1, 0, 1000);
      t.addPre(2, 1, 1000);
      Emit.loop(t, 4, 2, 1000);
      Emit.loop(t, 5, 4, 1000);
      Emit.loop(t, 6, 5, -999);
      Emit.loop(t, 7, 6, -999);
      Emit.when(t, 3, 7, 1 + slack);
      Emit.load(t, 0, 3, -1000);
      is("known is 3 - 0 <= " + (1999 + slack), t, 5, slack <= 0 ? LOW_FAIL : BOTH_FAIL);
    }
  }

  /** 0 - 7 <= -1000 + slack, by way of all eight variables and of a sum of -3999. */
  private static void farthestWayToLower() {
    for (int slack = -1; slack <= 1; slack++) {
      IndexTypeChecker t = States.fresh();
      t.addPre(0, 1, -1000);
      t.addPre(1, 2, -1000);
      t.addPre(2, 3, -1000);
      Emit.loop(t, 4, 3, 1000);
      Emit.when(t, 3, 4, -999);
      Emit.loop(t, 5, 4, 1000);
      Emit.when(t, 4, 5, 1000);
      Emit.loop(t, 6, 5, 1000);
      Emit.when(t, 5, 6, 1000);
      Emit.loop(t, 7, 6, 1000);
      Emit.when(t, 6, 7, 999 + slack);
      Emit.load(t, 0, 7, -1000);
      is("known is 0 - 7 <= " + (-1000 + slack), t, 8, slack <= 0 ? HIGH_FAIL : BOTH_FAIL);
    }
  }

  /** "It changes nothing." */
  private static void changesNothing() {
    Twins.changesNothing("accessStatus", t -> {
      for (int k = -1; k <= 32; k++) {
        t.accessStatus(k);
      }
      t.accessStatus(Edges.LOW);
      t.accessStatus(Edges.HIGH);
    });
  }
}
