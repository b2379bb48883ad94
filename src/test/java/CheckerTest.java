/** Promises 8 to 11: consistency, implication, access statuses and the check of a program. */
public final class CheckerTest {
  private static final int LOW = Integer.MIN_VALUE;
  private static final int HIGH = Integer.MAX_VALUE;

  public static void main(String[] args) {
    consistency();
    consistencyNeedsEveryVariable();
    consistencyDoesNotWearOut();
    implication();
    implicationWithoutPreconditions();
    implicationRefuses();
    implicationFromContradiction();
    statusOfOtherInstructions();
    statusOfEachKind();
    statusUsesLoops();
    statusUsesIfs();
    statusUsesPreconditions();
    statusInOpenBlocks();
    statusForgetsClosedBlocks();
    statusWithoutSolution();
    statusOfTheLongestChain();
    statusOfTheSlowestContext();
    statusInTheDeepestNest();
    statusAtTheGreatestConstants();
    checkAnswers();
    checkChangesNothing();
    Due.finish();
  }

  private static IndexTypeChecker fresh() {
    return new IndexTypeChecker(32, 16);
  }

  private static void consistency() {
    IndexTypeChecker t = fresh();
    Due.yes("consistent() with none", t.consistent());
    t.addPre(1, 2, -1);
    Due.yes("consistent() with one", t.consistent());
    t.addPre(2, 1, 1);
    Due.yes("consistent() on the edge: a cycle of sum 0", t.consistent());
    t.addPre(2, 1, 0);
    Due.no("consistent() with a cycle of sum -1", t.consistent());
    Due.no("consistent() asked again", t.consistent());
    t.clearPre();
    Due.yes("consistent() after clearPre()", t.consistent());
    for (int x = 0; x < 4; x++) {
      t.clearPre();
      t.addPre(x, x, 0);
      Due.yes("consistent() with x - x <= 0", t.consistent());
      t.addPre(x, x, -1);
      Due.no("consistent() with x - x <= -1", t.consistent());
    }
  }

  private static void consistencyNeedsEveryVariable() {
    IndexTypeChecker t = fresh();
    t.addPre(3, 2, -1000);
    t.addPre(2, 1, -1000);
    t.addPre(1, 0, -1000);
    Due.yes("consistent() with a chain", t.consistent());
    t.addPre(0, 3, 1000);
    Due.no("consistent() with a cycle over all four", t.consistent());
    t.clearPre();
    t.addPre(0, 3, 1000);
    t.addPre(1, 0, -500);
    t.addPre(2, 1, -300);
    t.addPre(3, 2, -200);
    Due.yes("consistent() with a cycle of sum 0 over all four", t.consistent());
    t.addPre(3, 2, -201);
    Due.no("consistent() with a cycle of sum -1 over all four", t.consistent());
  }

  /** A solver that went on from where the last question left it would overflow in time. */
  private static void consistencyDoesNotWearOut() {
    for (int x = 0; x < 4; x++) {
      IndexTypeChecker t = fresh();
      t.addPre(x, x, -1000);
      int consistent = 0;
      for (int n = 0; n < 600000; n++) {
        consistent += t.consistent() ? 1 : 0;
      }
      Due.is("times that " + x + " - " + x + " <= -1000 was consistent", consistent, 0);
    }
  }

  private static void implication() {
    IndexTypeChecker t = fresh();
    t.addPre(1, 2, 3);
    t.addPre(2, 3, -5);
    t.addPre(3, 0, 10);
    Due.yes("implies(1, 2, 3)", t.implies(1, 2, 3));
    Due.yes("implies(1, 2, 4)", t.implies(1, 2, 4));
    Due.no("implies(1, 2, 2)", t.implies(1, 2, 2));
    Due.yes("implies(1, 3, -2)", t.implies(1, 3, -2));
    Due.no("implies(1, 3, -3)", t.implies(1, 3, -3));
    Due.yes("implies(1, 0, 8)", t.implies(1, 0, 8));
    Due.no("implies(1, 0, 7)", t.implies(1, 0, 7));
    Due.no("implies(2, 1, 1000)", t.implies(2, 1, 1000));
    Due.no("implies(0, 1, 1000)", t.implies(0, 1, 1000));
    Due.yes("implies(2, 2, 0)", t.implies(2, 2, 0));
    Due.no("implies(2, 2, -1)", t.implies(2, 2, -1));
    Due.yes("implies(1, 0, 1000)", t.implies(1, 0, 1000));
    t.addPre(2, 0, -900);
    t.addPre(1, 2, -200);
    Due.yes("implies past the range of one constant", t.implies(1, 0, -1000));
    Due.yes("consistent() afterwards", t.consistent());
  }

  private static void implicationWithoutPreconditions() {
    IndexTypeChecker t = fresh();
    int[] constants = {-1000, -1, 0, 1, 1000};
    for (int x = 0; x < 4; x++) {
      for (int y = 0; y < 4; y++) {
        for (int c : constants) {
          int want = x == y && c >= 0 ? 1 : 0;
          Due.is("implies(" + x + ", " + y + ", " + c + ")", t.implies(x, y, c) ? 1 : 0, want);
        }
      }
    }
  }

  private static void implicationRefuses() {
    IndexTypeChecker t = fresh();
    int[] noVariable = {LOW, -1, 4, 7, 8, HIGH};
    int[] noConstant = {LOW, -1001, 1001, HIGH};
    for (int round = 0; round < 2; round++) {
      for (int bad : noVariable) {
        Due.no("implies(" + bad + ", 0, 0)", t.implies(bad, 0, 0));
        Due.no("implies(0, " + bad + ", 0)", t.implies(0, bad, 0));
        Due.no("implies(" + bad + ", " + bad + ", 0)", t.implies(bad, bad, 0));
      }
      for (int bad : noConstant) {
        Due.no("implies(0, 0, " + bad + ")", t.implies(0, 0, bad));
      }
      // A contradiction entails everything, yet wrong arguments are still refused.
      t.addPre(1, 1, -1);
      t.emit(1, 4, 0, 1);
    }
  }

  private static void implicationFromContradiction() {
    IndexTypeChecker t = fresh();
    t.addPre(1, 2, 0);
    t.addPre(2, 1, -1);
    for (int x = 0; x < 4; x++) {
      for (int y = 0; y < 4; y++) {
        Due.yes("implies(" + x + ", " + y + ", -1000)", t.implies(x, y, -1000));
        Due.yes("implies(" + x + ", " + y + ", 1000)", t.implies(x, y, 1000));
      }
    }
  }

  private static void statusOfOtherInstructions() {
    IndexTypeChecker t = fresh();
    Due.is("accessStatus(0) of an empty program", t.accessStatus(0), IndexTypeChecker.ST_NOT_ACCESS);
    t.emit(1, 4, 0, 1);
    t.emit(2, 4, 0, 0);
    t.emit(4, 0, 0, 1);
    t.emit(3, 0, 0, 0);
    t.emit(3, 0, 0, 0);
    t.emit(5, 0, 0, 0);
    t.emit(6, 0, 0, 0);
    t.emit(7, 0, 0, 0);
    for (int k = 0; k < 5; k++) {
      Due.is("accessStatus(" + k + ")", t.accessStatus(k), IndexTypeChecker.ST_NOT_ACCESS);
    }
    for (int k = 5; k < 8; k++) {
      Due.is("accessStatus(" + k + ")", t.accessStatus(k), IndexTypeChecker.ST_HIGH_FAIL);
    }
    int[] outside = {LOW, -2, -1, 8, 9, 31, 32, 33, HIGH};
    for (int k : outside) {
      Due.is("accessStatus(" + k + ")", t.accessStatus(k), IndexTypeChecker.ST_NOT_ACCESS);
    }
    t.clearProgram();
    for (int k = 0; k < 8; k++) {
      Due.is("cleared accessStatus(" + k + ")", t.accessStatus(k), IndexTypeChecker.ST_NOT_ACCESS);
    }
    t.emit(5, 0, 0, 0);
    Due.is("accessStatus(0)", t.accessStatus(0), IndexTypeChecker.ST_HIGH_FAIL);
    t.clearProgram();
    Due.is("accessStatus(0) of a cleared access", t.accessStatus(0), IndexTypeChecker.ST_NOT_ACCESS);
  }

  private static void statusOfEachKind() {
    for (int op = 5; op <= 7; op++) {
      IndexTypeChecker t = fresh();
      t.declare(2, 0, 3);
      t.emit(op, 2, 0, -1);
      t.emit(op, 2, 0, 0);
      t.emit(op, 2, 0, 2);
      t.emit(op, 2, 0, 3);
      t.emit(op, 2, 1, 0);
      Due.is("index -1", t.accessStatus(0), IndexTypeChecker.ST_LOW_FAIL);
      Due.is("index 0", t.accessStatus(1), IndexTypeChecker.ST_OK);
      Due.is("the last index", t.accessStatus(2), IndexTypeChecker.ST_OK);
      Due.is("one past the last index", t.accessStatus(3), IndexTypeChecker.ST_HIGH_FAIL);
      Due.is("an unknown index", t.accessStatus(4), IndexTypeChecker.ST_BOTH_FAIL);
      t.declare(2, 0, -3);
      Due.is("index -1 of length -3", t.accessStatus(0), IndexTypeChecker.ST_BOTH_FAIL);
      Due.is("index 0 of length -3", t.accessStatus(1), IndexTypeChecker.ST_HIGH_FAIL);
    }
  }

  private static void statusUsesLoops() {
    IndexTypeChecker t = fresh();
    t.declare(0, 1, 0);
    t.emit(1, 4, 1, 0);
    t.emit(5, 0, 4, 0);
    t.emit(5, 0, 4, 1);
    t.emit(5, 0, 4, -1);
    t.emit(1, 5, 4, 1);
    t.emit(5, 0, 5, 0);
    t.emit(5, 0, 5, 1);
    t.emit(3, 0, 0, 0);
    t.emit(3, 0, 0, 0);
    Due.is("i of 0..n-1", t.accessStatus(1), IndexTypeChecker.ST_OK);
    Due.is("i + 1 of 0..n-1", t.accessStatus(2), IndexTypeChecker.ST_HIGH_FAIL);
    Due.is("i - 1 of 0..n-1", t.accessStatus(3), IndexTypeChecker.ST_LOW_FAIL);
    Due.is("j of 0..i", t.accessStatus(5), IndexTypeChecker.ST_OK);
    Due.is("j + 1 of 0..i", t.accessStatus(6), IndexTypeChecker.ST_HIGH_FAIL);
    // A running loop body shows that its bound is above 0, so n - 1 is an index there.
    t.clearProgram();
    t.emit(1, 7, 1, 0);
    t.emit(5, 0, 1, -1);
    t.emit(5, 0, 0, 0);
    t.emit(3, 0, 0, 0);
    t.emit(5, 0, 0, 0);
    Due.is("n - 1 in the loop", t.accessStatus(1), IndexTypeChecker.ST_OK);
    Due.is("0 in the loop", t.accessStatus(2), IndexTypeChecker.ST_OK);
    Due.is("0 after the loop", t.accessStatus(4), IndexTypeChecker.ST_HIGH_FAIL);
  }

  private static void statusUsesIfs() {
    IndexTypeChecker t = fresh();
    t.declare(0, 1, 0);
    t.emit(1, 4, 2, 0);
    t.emit(2, 4, 1, -1);
    t.emit(7, 0, 4, 0);
    t.emit(2, 0, 4, -1);
    t.emit(7, 0, 4, -1);
    t.emit(7, 0, 4, -2);
    t.emit(3, 0, 0, 0);
    t.emit(7, 0, 4, -1);
    t.emit(3, 0, 0, 0);
    t.emit(7, 0, 4, 0);
    t.emit(3, 0, 0, 0);
    Due.is("i where i <= n - 1", t.accessStatus(2), IndexTypeChecker.ST_OK);
    Due.is("i - 1 where i >= 1", t.accessStatus(4), IndexTypeChecker.ST_OK);
    Due.is("i - 2 where i >= 1", t.accessStatus(5), IndexTypeChecker.ST_LOW_FAIL);
    Due.is("i - 1 after the inner IF", t.accessStatus(7), IndexTypeChecker.ST_LOW_FAIL);
    Due.is("i after the outer IF", t.accessStatus(9), IndexTypeChecker.ST_HIGH_FAIL);
  }

  private static void statusUsesPreconditions() {
    IndexTypeChecker t = fresh();
    t.declare(0, 2, 0);
    t.emit(1, 4, 1, 0);
    t.emit(5, 0, 4, 0);
    t.emit(3, 0, 0, 0);
    Due.is("without preconditions", t.accessStatus(1), IndexTypeChecker.ST_HIGH_FAIL);
    t.addPre(1, 3, -2);
    t.addPre(3, 2, 2);
    Due.is("with m <= n", t.accessStatus(1), IndexTypeChecker.ST_OK);
    t.clearPre();
    Due.is("after clearPre()", t.accessStatus(1), IndexTypeChecker.ST_HIGH_FAIL);
    t.addPre(1, 2, 1);
    Due.is("with m <= n + 1", t.accessStatus(1), IndexTypeChecker.ST_HIGH_FAIL);
  }

  private static void statusInOpenBlocks() {
    IndexTypeChecker t = fresh();
    t.declare(0, 0, 4);
    t.emit(1, 4, 0, 4);
    t.emit(5, 0, 4, 0);
    t.emit(2, 0, 4, -1);
    t.emit(5, 0, 4, -1);
    Due.is("in an open LOOP", t.accessStatus(1), IndexTypeChecker.ST_OK);
    Due.is("in an open LOOP and IF", t.accessStatus(3), IndexTypeChecker.ST_OK);
    t.emit(3, 0, 0, 0);
    t.emit(5, 0, 4, -1);
    Due.is("in the IF that was closed since", t.accessStatus(3), IndexTypeChecker.ST_OK);
    Due.is("after the IF", t.accessStatus(5), IndexTypeChecker.ST_LOW_FAIL);
    Due.is("before a block that opens later", t.accessStatus(1), IndexTypeChecker.ST_OK);
  }

  private static void statusForgetsClosedBlocks() {
    IndexTypeChecker t = fresh();
    t.declare(0, 0, 4);
    t.emit(2, 1, 0, 3);
    t.emit(2, 0, 1, 0);
    t.emit(5, 0, 1, 0);
    t.emit(3, 0, 0, 0);
    t.emit(5, 0, 1, 0);
    t.emit(3, 0, 0, 0);
    t.emit(5, 0, 1, 0);
    Due.is("in both IFs", t.accessStatus(2), IndexTypeChecker.ST_OK);
    Due.is("in the outer IF", t.accessStatus(4), IndexTypeChecker.ST_LOW_FAIL);
    Due.is("after both IFs", t.accessStatus(6), IndexTypeChecker.ST_BOTH_FAIL);
    t.clearProgram();
    t.emit(1, 4, 0, 2);
    t.emit(3, 0, 0, 0);
    t.emit(1, 4, 0, 9);
    t.emit(5, 0, 4, 0);
    t.emit(3, 0, 0, 0);
    Due.is("a loop variable used again keeps no old bound", t.accessStatus(3), IndexTypeChecker.ST_HIGH_FAIL);
    t.clearProgram();
    t.emit(5, 0, 1, 0);
    t.emit(2, 1, 0, 3);
    t.emit(3, 0, 0, 0);
    Due.is("before the IF", t.accessStatus(0), IndexTypeChecker.ST_BOTH_FAIL);
  }

  private static void statusWithoutSolution() {
    IndexTypeChecker t = fresh();
    t.emit(2, 3, 3, -1);
    t.emit(5, 0, 1, 500);
    t.emit(3, 0, 0, 0);
    t.emit(1, 4, 0, 0);
    t.emit(6, 1, 2, -500);
    t.emit(3, 0, 0, 0);
    t.emit(1, 4, 0, 1);
    t.emit(2, 0, 4, -1);
    t.emit(7, 1, 2, -500);
    t.emit(3, 0, 0, 0);
    t.emit(3, 0, 0, 0);
    t.emit(5, 0, 1, 0);
    Due.is("in IF x - x <= -1", t.accessStatus(1), IndexTypeChecker.ST_OK);
    Due.is("in a LOOP over nothing", t.accessStatus(4), IndexTypeChecker.ST_OK);
    Due.is("in IF i >= 1 in LOOP i 0 1", t.accessStatus(8), IndexTypeChecker.ST_OK);
    Due.is("outside", t.accessStatus(11), IndexTypeChecker.ST_BOTH_FAIL);
    t.addPre(2, 2, -1);
    Due.is("under contrary preconditions", t.accessStatus(11), IndexTypeChecker.ST_OK);
    Due.is("check() under contrary preconditions", t.check(), IndexTypeChecker.ACCEPTED);
  }

  /** The proof of each bound needs all eight variables, in either order of gathering. */
  private static void statusOfTheLongestChain() {
    for (int slack = 0; slack <= 1; slack++) {
      IndexTypeChecker up = fresh();
      up.declare(0, 0, 2);
      up.addPre(1, 0, 5 + slack);
      up.addPre(2, 1, 0);
      up.addPre(3, 2, 0);
      up.emit(1, 4, 3, 0);
      up.emit(1, 5, 4, 0);
      up.emit(1, 6, 5, 0);
      up.emit(1, 7, 6, 0);
      up.emit(5, 0, 7, 0);
      Due.is("upwards, slack " + slack, up.accessStatus(4), slack == 0 ? 1 : 3);
      IndexTypeChecker down = fresh();
      down.declare(0, 0, 2);
      down.addPre(3, 2, 0);
      down.addPre(2, 1, 0);
      down.addPre(1, 0, 5 + slack);
      down.emit(1, 7, 3, 0);
      down.emit(1, 6, 7, 0);
      down.emit(1, 5, 6, 0);
      down.emit(1, 4, 5, 0);
      down.emit(5, 0, 4, 0);
      Due.is("downwards, slack " + slack, down.accessStatus(4), slack == 0 ? 1 : 3);
    }
  }

  /**
   * The order 0 < 3 < 2 < 4 < 5 < 6 < 1 < 7, told from its far end, so that a solver that goes
   * through the constraints as they stand learns one step of it a round.
   */
  private static void statusOfTheSlowestContext() {
    IndexTypeChecker t = fresh();
    t.declare(0, 1, 1);
    t.addPre(0, 3, -1);
    t.addPre(3, 2, -1);
    for (int v = 4; v < 8; v++) {
      t.emit(1, v, 0, 1000);
    }
    t.emit(2, 2, 4, -1);
    t.emit(2, 4, 5, -1);
    t.emit(2, 5, 6, -1);
    t.emit(2, 6, 1, -1);
    t.emit(5, 0, 7, 0);
    Due.is("7 may be above 1", t.accessStatus(8), IndexTypeChecker.ST_HIGH_FAIL);
    t.emit(2, 7, 1, 0);
    t.emit(5, 0, 7, 0);
    Due.is("7 is not above 1", t.accessStatus(10), IndexTypeChecker.ST_OK);
  }

  private static void statusInTheDeepestNest() {
    IndexTypeChecker t = fresh();
    t.declare(0, 0, 1000);
    for (int n = 0; n < 16; n++) {
      t.addPre(n % 4, (n + 1) % 4, 1000);
    }
    for (int v = 4; v < 8; v++) {
      t.emit(1, v, 0, 1000);
    }
    for (int n = 0; n < 27; n++) {
      t.emit(2, 4 + n % 4, 0, 999 - n);
    }
    Due.yes("the last instruction", t.emit(5, 0, 6, 0));
    Due.is("31 blocks deep", t.accessStatus(31), IndexTypeChecker.ST_OK);
    t.declare(0, 0, 974);
    Due.is("31 blocks deep, the tightest length", t.accessStatus(31), IndexTypeChecker.ST_OK);
    t.declare(0, 0, 973);
    Due.is("31 blocks deep, one too short", t.accessStatus(31), IndexTypeChecker.ST_HIGH_FAIL);
  }

  private static void statusAtTheGreatestConstants() {
    IndexTypeChecker t = fresh();
    t.declare(0, 1, 1000);
    t.emit(1, 4, 1, 1000);
    t.emit(5, 0, 4, 0);
    t.emit(5, 0, 4, 1000);
    t.emit(5, 0, 4, -1000);
    Due.is("LOOP i n 1000, index i", t.accessStatus(1), IndexTypeChecker.ST_OK);
    Due.is("LOOP i n 1000, index i + 1000", t.accessStatus(2), IndexTypeChecker.ST_HIGH_FAIL);
    Due.is("LOOP i n 1000, index i - 1000", t.accessStatus(3), IndexTypeChecker.ST_LOW_FAIL);
    t.declare(0, 1, -1000);
    Due.is("length n - 1000, index i + 1000", t.accessStatus(2), IndexTypeChecker.ST_HIGH_FAIL);
    Due.is("length n - 1000, index i - 1000", t.accessStatus(3), IndexTypeChecker.ST_BOTH_FAIL);
    // UPPER with lc = -1000 and c = 1000 asks for n - m <= -2001.
    t.clearProgram();
    t.declare(0, 2, -1000);
    t.emit(5, 0, 1, 1000);
    t.addPre(1, 3, -1000);
    t.addPre(3, 0, -1000);
    t.addPre(0, 2, 0);
    Due.is("n - m <= -2000 known", t.accessStatus(0), IndexTypeChecker.ST_BOTH_FAIL);
    t.addPre(0, 2, -1);
    Due.is("n - m <= -2001 known", t.accessStatus(0), IndexTypeChecker.ST_LOW_FAIL);
  }

  private static void checkAnswers() {
    IndexTypeChecker t = fresh();
    Due.is("check() of an empty program", t.check(), IndexTypeChecker.ACCEPTED);
    t.emit(4, 0, 0, 1);
    Due.is("check() without accesses", t.check(), IndexTypeChecker.ACCEPTED);
    t.emit(5, 0, 0, -1);
    Due.is("check() with a low failure", t.check(), 1);
    t.emit(2, 0, 0, 0);
    Due.is("check() with a failure and an open block", t.check(), IndexTypeChecker.INCOMPLETE);
    t.emit(3, 0, 0, 0);
    t.emit(5, 0, 0, 0);
    Due.is("check() answers the least", t.check(), 1);
    t.clearProgram();
    t.declare(1, 0, 1);
    t.emit(5, 1, 0, 0);
    t.emit(5, 1, 0, 1);
    t.emit(5, 1, 3, 0);
    Due.is("check() with a high failure", t.check(), 1);
    t.declare(1, 0, 2);
    Due.is("check() with a double failure", t.check(), 2);
    t.clearProgram();
    t.emit(5, 0, 0, 0);
    Due.is("check() with instruction 0 failing", t.check(), 0);
    t.clearProgram();
    for (int n = 0; n < 31; n++) {
      t.emit(5, 1, 0, n % 2);
    }
    t.emit(5, 1, 0, 2);
    Due.is("check() with instruction 31 failing", t.check(), 31);
    t.clearProgram();
    t.emit(1, 4, 0, 1);
    Due.is("check() with an open LOOP", t.check(), IndexTypeChecker.INCOMPLETE);
    t.emit(3, 0, 0, 0);
    Due.is("check() with a closed LOOP", t.check(), IndexTypeChecker.ACCEPTED);
  }

  private static void checkChangesNothing() {
    IndexTypeChecker t = fresh();
    t.declare(0, 1, 0);
    t.addPre(0, 1, 0);
    t.setParam(1, 2);
    t.setCell(0, 1, 6);
    for (int round = 0; round < 3; round++) {
      t.clearProgram();
      t.emit(1, 4, 1, 0);
      Due.is("check()", t.check(), IndexTypeChecker.INCOMPLETE);
      t.emit(5, 0, 4, 0);
      Due.is("accessStatus(1)", t.accessStatus(1), IndexTypeChecker.ST_OK);
      t.emit(3, 0, 0, 0);
      Due.is("check()", t.check(), IndexTypeChecker.ACCEPTED);
      t.emit(7, 0, 1, 0);
      Due.is("check()", t.check(), 3);
      Due.no("implies(0, 1, -1)", t.implies(0, 1, -1));
      Due.yes("implies(0, 1, 0)", t.implies(0, 1, 0));
      Due.yes("consistent()", t.consistent());
      Due.is("acc()", t.acc(), round == 0 ? 0 : 6);
      Due.is("trapAt()", t.trapAt(), round == 0 ? -1 : 3);
      Due.is("run", t.run(99), IndexTypeChecker.RUN_TRAP);
      Due.is("trapAt()", t.trapAt(), 3);
      Due.is("acc()", t.acc(), 6);
      Due.is("cell(0, 2)", t.cell(0, 2), 0);
      Due.is("check()", t.check(), 3);
      Due.is("size()", t.size(), 4);
    }
  }
}
