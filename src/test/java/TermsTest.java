/** "What it is": the terms that the promises use, each at its edges. */
public final class TermsTest {
  private static final int OK = IndexTypeChecker.ST_OK;
  private static final int LOW_FAIL = IndexTypeChecker.ST_LOW_FAIL;
  private static final int HIGH_FAIL = IndexTypeChecker.ST_HIGH_FAIL;
  private static final int BOTH_FAIL = IndexTypeChecker.ST_BOTH_FAIL;
  private static final int DONE = IndexTypeChecker.RUN_DONE;

  public static void main(String[] args) {
    variablesAreNumberedFrom0To7();
    variable0IsTheConstantZero();
    parametersAre1To3();
    loopVariablesAreBoundOnlyInTheirLoop();
    indexArithmeticIsExact();
    differencesAreExact();
    loopBodyRunsFrom0ToHiMinus1();
    ifBodyRunsOnceOrNotAtAll();
    endIgnoresItsOperands();
    setIgnoresItsOperands();
    blockEnclosesFromAfterItsOpenerToBeforeItsEnd();
    openBlockEnclosesAllThatFollows();
    boundVariables();
    loopGivesItsTwoConstraints();
    ifGivesItsConstraint();
    entailmentIsOverIntegersOfAnySize();
    setWithoutSolutionEntailsEverything();
    lowerObligation();
    upperObligation();
    Due.finish();
  }

  /** "Index variables are numbered 0..7." */
  private static void variablesAreNumberedFrom0To7() {
    for (int v = 4; v < 8; v++) {
      IndexTypeChecker t = States.fresh();
      Due.yes("LOOP " + v, Emit.loop(t, v, 0, 1));
      Due.yes("LOAD with variable " + v, Emit.load(t, 0, v, 0));
    }
    IndexTypeChecker t = States.fresh();
    for (int v = 4; v < 8; v++) {
      Emit.loop(t, v, 0, 1);
    }
    for (int v = 0; v < 8; v++) {
      Due.yes("LOAD with variable " + v + " of all eight", Emit.load(t, 0, v, 0));
    }
    for (int bad : Edges.outside(0, 7)) {
      Due.no("LOAD with variable " + bad, Emit.load(t, 0, bad, 0));
      Due.no("IF with variable " + bad, Emit.when(t, bad, 0, 0));
    }
  }

  /** "Variable 0 is the constant zero." */
  private static void variable0IsTheConstantZero() {
    IndexTypeChecker t = States.fresh();
    Due.no("setParam(0, 1)", t.setParam(0, 1));
    t.declare(0, 0, 16);
    for (int i = 0; i < 16; i++) {
      t.setCell(0, i, 10 + i);
      t.clearProgram();
      Emit.load(t, 0, 0, i);
      Due.is("status of (0, " + i + ")", t.accessStatus(0), OK);
      Due.is("run", t.run(9), DONE);
      Due.is("acc() of cell [0 + " + i + "]", t.acc(), 10 + i);
    }
    for (int c = -1; c <= 1; c++) {
      t.clearProgram();
      Emit.when(t, 0, 0, c);
      Emit.set(t, 1);
      Emit.end(t);
      t.run(9);
      Due.is("acc() of IF 0 - 0 <= " + c, t.acc(), c >= 0 ? 1 : 0);
    }
  }

  /** "Variables 1..3 are parameters": bound without a LOOP, and of unknown value to the checker. */
  private static void parametersAre1To3() {
    IndexTypeChecker t = States.fresh();
    t.declare(0, 0, 1000);
    for (int v = 0; v < 4; v++) {
      Due.yes("LOAD with variable " + v, Emit.load(t, 0, v, 0));
      Due.is("status with variable " + v, t.accessStatus(v), v == 0 ? OK : BOTH_FAIL);
    }
    Due.no("LOAD with variable 4", Emit.load(t, 0, 4, 0));
  }

  /** "Variables 4..7 are loop variables, bound only inside a LOOP naming them." */
  private static void loopVariablesAreBoundOnlyInTheirLoop() {
    for (int v = 4; v < 8; v++) {
      IndexTypeChecker t = States.fresh();
      Due.no("LOAD before LOOP " + v, Emit.load(t, 0, v, 0));
      Emit.loop(t, v, 0, 1);
      for (int other = 4; other < 8; other++) {
        Due.is("LOAD with " + other + " in LOOP " + v, Emit.load(t, 0, other, 0) ? 1 : 0, other == v ? 1 : 0);
      }
      Emit.end(t);
      Due.no("LOAD after LOOP " + v, Emit.load(t, 0, v, 0));
    }
  }

  /** "All index arithmetic is exact integer arithmetic": past the range of one constant. */
  private static void indexArithmeticIsExact() {
    IndexTypeChecker t = States.fresh();
    t.setParam(1, 1000);
    t.setParam(2, -1000);
    t.declare(0, 1, -984);
    t.declare(1, 2, 1000);
    Emit.loop(t, 4, 1, 1000);
    Emit.set(t, 3);
    Emit.end(t);
    Due.is("run of a loop to 2000", t.run(4001), DONE);
    Due.is("run of a loop to 2000 with one step too few", t.run(4000), IndexTypeChecker.RUN_OUT_OF_FUEL);
    t.clearProgram();
    Emit.loop(t, 4, 2, 1000);
    Emit.set(t, 3);
    Emit.end(t);
    Due.is("run of a loop to 0", t.run(1), DONE);
    t.clearProgram();
    t.setCell(0, 15, 77);
    Emit.load(t, 0, 1, -985);
    Due.is("run at the last cell", t.run(9), DONE);
    Due.is("acc() of the last cell", t.acc(), 77);
    t.clearProgram();
    Emit.load(t, 0, 1, 1000);
    Due.is("run at subscript 2000", t.run(9), IndexTypeChecker.RUN_TRAP);
    t.clearProgram();
    Emit.load(t, 0, 2, -1000);
    Due.is("run at subscript -2000", t.run(9), IndexTypeChecker.RUN_TRAP);
  }

  /** Two parameters may lie 2000 apart, and sums of constraints farther. */
  private static void differencesAreExact() {
    IndexTypeChecker t = States.fresh();
    t.setParam(1, 1000);
    t.setParam(2, -1000);
    Emit.when(t, 1, 2, 1000);
    Emit.set(t, 1);
    Emit.end(t);
    Emit.when(t, 2, 1, -1000);
    Emit.set(t, 2);
    Emit.end(t);
    Due.is("run", t.run(9), DONE);
    Due.is("acc() of IF 2000 <= 1000 and IF -2000 <= -1000", t.acc(), 2);
    t.addPre(3, 2, 1000);
    t.addPre(2, 1, 1000);
    t.addPre(1, 0, 1000);
    Due.no("3 - 0 <= 3000 implies 3 - 0 <= 1000", t.implies(3, 0, 1000));
    t.addPre(2, 1, -999);
    t.addPre(1, 0, -1000);
    Due.yes("3 - 0 <= -999", t.implies(3, 0, -999));
    Due.no("3 - 0 <= -1000", t.implies(3, 0, -1000));
  }

  /** "opens a block whose body runs with val(a) = 0, 1, .., hi-1, where hi = val(v) + c at entry." */
  private static void loopBodyRunsFrom0ToHiMinus1() {
    for (int hi = -2; hi <= 16; hi++) {
      IndexTypeChecker t = States.fresh();
      t.declare(0, 0, 16);
      t.declare(1, 0, 1);
      t.setCell(1, 0, 1);
      t.setParam(1, hi + 7);
      Emit.loop(t, 6, 1, -7);
      Emit.add(t, 1, 0, 0);
      Emit.store(t, 0, 6, 0);
      Emit.end(t);
      Due.is("run", t.run(1000), DONE);
      for (int i = 0; i < 16; i++) {
        // Each round leaves its number, from 1, in the cell of the variable's value.
        Due.is("cell(0, " + i + ") of a loop to " + hi, t.cell(0, i), i < hi ? i + 1 : 0);
      }
      Due.is("rounds of a loop to " + hi, t.acc(), Math.max(hi, 0));
    }
  }

  /** "opens a block whose body runs once iff val(a) - val(v) <= c, else not at all." */
  private static void ifBodyRunsOnceOrNotAtAll() {
    for (int difference = -3; difference <= 3; difference++) {
      for (int c = difference - 1; c <= difference + 1; c++) {
        IndexTypeChecker t = States.fresh();
        t.declare(0, 0, 1);
        t.setCell(0, 0, 1);
        t.setParam(1, difference + 4);
        t.setParam(2, 4);
        Emit.when(t, 1, 2, c);
        Emit.add(t, 0, 0, 0);
        Emit.end(t);
        Due.is("run", t.run(10), DONE);
        Due.is("times that IF " + difference + " <= " + c + " ran", t.acc(), difference <= c ? 1 : 0);
      }
    }
  }

  /** "END: closes the innermost open block (a, v, c are ignored)." */
  private static void endIgnoresItsOperands() {
    int[] odd = {Edges.LOW, -1, 0, 3, 4, 7, 8, 1001, Edges.HIGH};
    for (int a : odd) {
      for (int v : odd) {
        for (int c : odd) {
          IndexTypeChecker t = States.fresh();
          Emit.loop(t, 4, 0, 3);
          Emit.when(t, 4, 0, 0);
          Emit.set(t, 6);
          Due.yes("END " + a + " " + v + " " + c + " of the IF", t.emit(3, a, v, c));
          Due.is("check() with the LOOP open", t.check(), IndexTypeChecker.INCOMPLETE);
          Due.yes("END " + a + " " + v + " " + c + " of the LOOP", t.emit(3, a, v, c));
          Due.is("check()", t.check(), IndexTypeChecker.ACCEPTED);
          // LOOP, IF SET END END, IF END, IF END
          Due.is("run(9)", t.run(9), DONE);
          Due.is("run(8)", t.run(8), IndexTypeChecker.RUN_OUT_OF_FUEL);
        }
      }
    }
  }

  /** "SET c: acc = c (a, v are ignored)." */
  private static void setIgnoresItsOperands() {
    int[] odd = {Edges.LOW, -1, 0, 3, 4, 7, 8, 1001, Edges.HIGH};
    for (int a : odd) {
      for (int v : odd) {
        IndexTypeChecker t = States.fresh();
        Due.yes("SET " + a + " " + v + " 6", t.emit(4, a, v, 6));
        Due.is("run(1)", t.run(1), DONE);
        Due.is("acc()", t.acc(), 6);
      }
    }
  }

  /** "A block opened at j encloses k if j < k and its matching END, if any, is at an index > k." */
  private static void blockEnclosesFromAfterItsOpenerToBeforeItsEnd() {
    for (int op = 1; op <= 2; op++) {
      IndexTypeChecker t = States.fresh();
      t.declare(0, 1, 0);
      Emit.load(t, 0, 1, -1);
      if (op == 1) {
        Emit.loop(t, 4, 1, 0);
      } else {
        Emit.when(t, 0, 1, -1);
      }
      Emit.load(t, 0, 1, -1);
      Emit.set(t, 0);
      Emit.load(t, 0, 1, -1);
      Emit.end(t);
      Emit.load(t, 0, 1, -1);
      // Only inside is n known to be 1 or more.
      Due.is("status just before the opener " + op, t.accessStatus(0), LOW_FAIL);
      Due.is("status of the opener " + op, t.accessStatus(1), IndexTypeChecker.ST_NOT_ACCESS);
      Due.is("status just after the opener " + op, t.accessStatus(2), OK);
      Due.is("status just before the END of " + op, t.accessStatus(4), OK);
      Due.is("status of the END of " + op, t.accessStatus(5), IndexTypeChecker.ST_NOT_ACCESS);
      Due.is("status just after the END of " + op, t.accessStatus(6), LOW_FAIL);
    }
  }

  /** "A block is open if it has no matching END yet." */
  private static void openBlockEnclosesAllThatFollows() {
    IndexTypeChecker t = States.fresh();
    t.declare(0, 1, 0);
    Emit.when(t, 0, 1, -1);
    Emit.when(t, 0, 0, 0);
    Emit.end(t);
    for (int k = 3; k < 32; k++) {
      Emit.load(t, 0, 1, -1);
      Due.is("status of " + k + " in the open IF", t.accessStatus(k), OK);
    }
  }

  /** "A variable is bound ... if it is in 0..3, or it is the loop variable of a LOOP whose block is open." */
  private static void boundVariables() {
    IndexTypeChecker t = States.fresh();
    Emit.loop(t, 4, 0, 1);
    Emit.loop(t, 5, 0, 1);
    Emit.end(t);
    Emit.when(t, 4, 4, 0);
    for (int v = -1; v <= 8; v++) {
      Due.is("LOAD with " + v, Emit.load(t, 0, v, 0) ? 1 : 0, v >= 0 && v <= 4 ? 1 : 0);
    }
    Emit.end(t);
    Due.yes("4 is bound after the END of the IF", Emit.load(t, 0, 4, 0));
    Emit.end(t);
    Due.no("4 is not bound after the END of its LOOP", Emit.load(t, 0, 4, 0));
  }

  /** "LOOP i v c gives 0 - i <= 0 and i - v <= c - 1." */
  private static void loopGivesItsTwoConstraints() {
    for (int c = -2; c <= 2; c++) {
      IndexTypeChecker t = States.fresh();
      t.declare(0, 1, 0);
      Emit.loop(t, 4, 1, c);
      for (int s : new int[] {-1000, -4, -3, -2, -1, 0, 1, 2, 3, 4, 1000}) {
        int k = t.size();
        Emit.load(t, 0, 4, s);
        boolean lower = s >= 0;
        boolean upper = c - 1 + s <= -1;
        Due.is("status of i + " + s + " in LOOP i n " + c, t.accessStatus(k), status(lower, upper));
      }
    }
  }

  private static int status(boolean lower, boolean upper) {
    return lower ? (upper ? OK : HIGH_FAIL) : (upper ? LOW_FAIL : BOTH_FAIL);
  }

  /** "IF x y c gives x - y <= c." */
  private static void ifGivesItsConstraint() {
    for (int c : new int[] {-1000, -999, -1, 0, 1, 999, 1000}) {
      IndexTypeChecker t = States.fresh();
      Emit.when(t, 1, 2, c);
      Emit.load(t, 0, 1, 0);
      for (int length = Math.max(-1000, c); length <= Math.min(1000, c + 2); length++) {
        t.declare(0, 2, length);
        boolean upper = c <= length - 1;
        Due.is("status in IF n - m <= " + c + ", length m + " + length, t.accessStatus(1), status(false, upper));
      }
      t.clearProgram();
      Emit.when(t, 0, 1, c);
      for (int s = Math.max(-1000, c - 1); s <= Math.min(1000, c + 1); s++) {
        Emit.load(t, 3, 1, s);
        Due.is("status of n + " + s + " in IF 0 - n <= " + c, t.accessStatus(t.size() - 1), status(c <= s, false));
      }
    }
  }

  /** "there is no assignment of integers (of any size)". */
  private static void entailmentIsOverIntegersOfAnySize() {
    IndexTypeChecker t = States.fresh();
    t.addPre(0, 1, -1000);
    t.addPre(1, 2, -1000);
    t.addPre(2, 3, -1000);
    Due.yes("3 is at least 3000", t.implies(0, 3, -1000));
    Due.no("3 has no upper bound", t.implies(3, 0, 1000));
    for (int v = 4; v < 8; v++) {
      Emit.loop(t, v, 0, 1000);
    }
    Emit.when(t, 3, 4, -1000);
    Emit.load(t, 0, 3, 0);
    Due.is("status where i must be at least 4000 and at most 999", t.accessStatus(5), OK);
    t.clearProgram();
    Emit.loop(t, 4, 3, 1000);
    Emit.when(t, 3, 4, -999);
    Emit.loop(t, 5, 4, 1000);
    Emit.when(t, 4, 5, -999);
    Emit.load(t, 0, 5, -1000);
    t.declare(0, 3, 998);
    // j may be as far as p + 1998 only, and that is at least 4998.
    Due.is("status where j is exactly p + 1998", t.accessStatus(4), HIGH_FAIL);
    t.declare(0, 3, 999);
    Due.is("status where j is exactly p + 1998, length one more", t.accessStatus(4), OK);
  }

  /** "Thus a set without integer solutions entails everything." */
  private static void setWithoutSolutionEntailsEverything() {
    for (int sum = -1; sum <= 1; sum++) {
      IndexTypeChecker t = States.fresh();
      t.addPre(1, 2, 5);
      t.addPre(2, 1, sum - 5);
      Emit.load(t, 0, 3, -1000);
      boolean all = sum < 0;
      Due.is("consistent() with a cycle of sum " + sum, t.consistent() ? 1 : 0, all ? 0 : 1);
      Due.is("status with a cycle of sum " + sum, t.accessStatus(0), all ? OK : BOTH_FAIL);
      for (int x = 0; x < 4; x++) {
        for (int y = 0; y < 4; y++) {
          Due.is("implies(" + x + ", " + y + ", -1000)", t.implies(x, y, -1000) ? 1 : 0, all ? 1 : 0);
        }
      }
    }
  }

  /** "LOWER: 0 - v <= c (subscript >= 0)." */
  private static void lowerObligation() {
    IndexTypeChecker t = States.fresh();
    t.declare(0, 0, 1000);
    for (int c : new int[] {-1000, -2, -1, 0, 1, 999}) {
      t.clearProgram();
      Emit.load(t, 0, 0, c);
      Due.is("status of subscript " + c, t.accessStatus(0), c < 0 ? LOW_FAIL : OK);
    }
    t.addPre(0, 1, -7);
    t.addPre(1, 0, 9);
    for (int c = -9; c <= -5; c++) {
      t.clearProgram();
      Emit.load(t, 0, 1, c);
      Due.is("status of n + " + c + " where n >= 7", t.accessStatus(0), c < -7 ? LOW_FAIL : OK);
    }
  }

  /** "UPPER: v - lv <= lc - 1 - c (subscript <= length - 1)." */
  private static void upperObligation() {
    IndexTypeChecker t = States.fresh();
    for (int length : new int[] {0, 1, 2, 16, 999, 1000}) {
      t.declare(0, 0, length);
      for (int c = Math.max(0, length - 2); c <= Math.min(1000, length + 1); c++) {
        t.clearProgram();
        Emit.load(t, 0, 0, c);
        Due.is("status of subscript " + c + " of " + length, t.accessStatus(0), c < length ? OK : HIGH_FAIL);
      }
    }
    t.declare(0, 2, 3);
    t.addPre(0, 1, 0);
    t.addPre(1, 2, 4);
    for (int c = -4; c <= 1; c++) {
      t.clearProgram();
      Emit.load(t, 0, 1, c);
      Due.is("status of n + " + c + " of m + 3 where n <= m + 4", t.accessStatus(0), status(c >= 0, c <= -2));
    }
  }
}
