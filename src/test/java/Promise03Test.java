/** Promise 3: declaring array lengths. */
public final class Promise03Test {
  private static final int OK = IndexTypeChecker.ST_OK;
  private static final int LOW_FAIL = IndexTypeChecker.ST_LOW_FAIL;
  private static final int HIGH_FAIL = IndexTypeChecker.ST_HIGH_FAIL;
  private static final int BOTH_FAIL = IndexTypeChecker.ST_BOTH_FAIL;

  public static void main(String[] args) {
    arrayOutsideIsRefused();
    variableOutsideIsRefused();
    constantOutsideIsRefused();
    wrongInMoreThanOneWay();
    everyArrayAndVariableIsTaken();
    constantsInsideAreTaken();
    theFormerTermIsReplaced();
    otherArraysKeepTheirs();
    allowedWithBlocksOpenAndWhenFull();
    cellsAreNotTouched();
    laterAnswersUseTheLaterTerm();
    laterRunsUseTheLaterTerm();
    Due.finish();
  }

  /** "a is not in 0..3". */
  private static void arrayOutsideIsRefused() {
    for (int a : Edges.outside(0, 3)) {
      Twins.refused("declare(" + a + ", 0, 7)", t -> t.declare(a, 0, 7));
    }
  }

  /** "or lv is not in 0..3". */
  private static void variableOutsideIsRefused() {
    for (int lv : Edges.outside(0, 3)) {
      Twins.refused("declare(1, " + lv + ", 7)", t -> t.declare(1, lv, 7));
    }
    Twins.refused("declare(0, 4, 0) in LOOP 4", States::open, t -> t.declare(0, 4, 0));
  }

  /** "or lc is not in [-1000, 1000]". */
  private static void constantOutsideIsRefused() {
    for (int lc : Edges.noConstants()) {
      Twins.refused("declare(2, 0, " + lc + ")", t -> t.declare(2, 0, lc));
    }
  }

  private static void wrongInMoreThanOneWay() {
    Twins.refused("declare(4, 4, 0)", t -> t.declare(4, 4, 0));
    Twins.refused("declare(-1, 0, 1001)", t -> t.declare(-1, 0, 1001));
    Twins.refused("declare(0, -1, -1001)", t -> t.declare(0, -1, -1001));
  }

  /** "Otherwise it answers true." */
  private static void everyArrayAndVariableIsTaken() {
    for (int a = 0; a < 4; a++) {
      for (int lv = 0; lv < 4; lv++) {
        IndexTypeChecker t = States.fresh();
        Due.yes("declare(" + a + ", " + lv + ", 5)", t.declare(a, lv, 5));
        for (int c = 3; c <= 6; c++) {
          t.clearProgram();
          Emit.load(t, a, lv, c);
          boolean below = c < 5;
          int due = lv == 0 ? (below ? OK : HIGH_FAIL) : (below ? LOW_FAIL : BOTH_FAIL);
          Due.is("status of (" + lv + ", " + c + ") of (" + lv + ", 5)", t.accessStatus(0), due);
        }
      }
    }
  }

  private static void constantsInsideAreTaken() {
    for (int lc : new int[] {-1000, -999, -1, 0, 1, 999, 1000}) {
      IndexTypeChecker t = States.fresh();
      Due.yes("declare(3, 1, " + lc + ")", t.declare(3, 1, lc));
      for (int c = Math.max(-1000, lc - 2); c <= Math.min(1000, lc + 1); c++) {
        t.clearProgram();
        Emit.load(t, 3, 1, c);
        Due.is("status of (1, " + c + ") of (1, " + lc + ")", t.accessStatus(0), c < lc ? LOW_FAIL : BOTH_FAIL);
      }
    }
  }

  /** "sets the length term of array a to (lv, lc), replacing the former one." */
  private static void theFormerTermIsReplaced() {
    for (String name : States.names()) {
      for (int a = 0; a < 4; a++) {
        int array = a;
        Twins.same("declared twice on " + name, Twins.after(States.of(name), t -> {
          t.declare(array, 3, -1000);
          t.declare(array, 2, 4);
        }), Twins.after(States.of(name), t -> t.declare(array, 2, 4)));
      }
    }
  }

  private static void otherArraysKeepTheirs() {
    IndexTypeChecker t = States.fresh();
    for (int a = 0; a < 4; a++) {
      t.declare(a, 0, a + 2);
    }
    for (int a = 0; a < 4; a++) {
      for (int c = a + 1; c <= a + 2; c++) {
        t.clearProgram();
        Emit.load(t, a, 0, c);
        Due.is("status of " + c + " of array " + a, t.accessStatus(0), c < a + 2 ? OK : HIGH_FAIL);
      }
    }
  }

  /** "It is allowed at any time, including while blocks are open and after instructions have been emitted." */
  private static void allowedWithBlocksOpenAndWhenFull() {
    for (String name : States.names()) {
      for (int a = 0; a < 4; a++) {
        IndexTypeChecker t = States.of(name).get();
        int size = t.size();
        Due.yes("declare(" + a + ", 1, 6) on " + name, t.declare(a, 1, 6));
        Due.is("size() after declare on " + name, t.size(), size);
      }
    }
    IndexTypeChecker t = States.open();
    t.declare(0, 0, 3);
    Due.is("check() with the blocks still open", t.check(), IndexTypeChecker.INCOMPLETE);
    Due.yes("END of the IF", Emit.end(t));
    Due.yes("END of the LOOP", Emit.end(t));
    Due.no("no third END", Emit.end(t));
  }

  /** "Cells are not touched." */
  private static void cellsAreNotTouched() {
    for (int lc : new int[] {-1000, -1, 0, 1, 15, 16, 17, 1000}) {
      IndexTypeChecker t = States.trapped();
      for (int a = 0; a < 4; a++) {
        t.declare(a, 0, lc);
      }
      for (int a = 0; a < 4; a++) {
        for (int i = 0; i < 16; i++) {
          int due = a == 0 && i == 2 ? 41 : 100 * a + i + 1;
          Due.is("cell(" + a + ", " + i + ") after declare", t.cell(a, i), due);
        }
      }
    }
  }

  /** "a later declare affects later answers of accessStatus and check". */
  private static void laterAnswersUseTheLaterTerm() {
    IndexTypeChecker t = States.fresh();
    Emit.loop(t, 4, 0, 3);
    Emit.add(t, 0, 4, 0);
    Due.is("status with length 0", t.accessStatus(1), HIGH_FAIL);
    int[] lengths = {2, 3, 4, 3, 2, 3};
    for (int length : lengths) {
      Due.yes("declare(0, 0, " + length + ")", t.declare(0, 0, length));
      Due.is("status with length " + length, t.accessStatus(1), length < 3 ? HIGH_FAIL : OK);
    }
    Emit.end(t);
    for (int length : lengths) {
      t.declare(0, 0, length);
      Due.is("check() with length " + length, t.check(), length < 3 ? 1 : IndexTypeChecker.ACCEPTED);
    }
    t.declare(0, 1, 3);
    Due.is("status with length n + 3", t.accessStatus(1), HIGH_FAIL);
    t.addPre(0, 1, 0);
    Due.is("status with length n + 3 where n >= 0", t.accessStatus(1), OK);
  }

  /** "and the lengths used by later runs". */
  private static void laterRunsUseTheLaterTerm() {
    IndexTypeChecker t = States.fresh();
    t.setParam(2, 10);
    Emit.load(t, 0, 0, 2);
    int[][] cases = {
      {0, 3, IndexTypeChecker.RUN_DONE}, {0, 2, IndexTypeChecker.RUN_TRAP}, {2, -7, IndexTypeChecker.RUN_DONE},
      {2, -8, IndexTypeChecker.RUN_TRAP}, {2, 6, IndexTypeChecker.RUN_DONE}, {2, 7, IndexTypeChecker.RUN_REFUSED},
      {2, -10, IndexTypeChecker.RUN_TRAP}, {2, -11, IndexTypeChecker.RUN_REFUSED}, {0, 16, IndexTypeChecker.RUN_DONE},
    };
    for (int[] one : cases) {
      t.declare(0, one[0], one[1]);
      Due.is("run with length (" + one[0] + ", " + one[1] + ")", t.run(9), one[2]);
    }
  }
}
