/** Promise 1: construction and fresh state. */
public final class Promise01Test {
  private static final int LOW = Edges.LOW;
  private static final int HIGH = Edges.HIGH;

  public static void main(String[] args) {
    programCapBelowTheLeastBecomesTheLeast();
    programCapInRangeIsKept();
    programCapAboveTheGreatestBecomesTheGreatest();
    preCapBelowTheLeastBecomesTheLeast();
    preCapInRangeIsKept();
    preCapAboveTheGreatestBecomesTheGreatest();
    theCapsAreClampedEachAlone();
    bothCapsStayFixed();
    freshProgramIsEmpty();
    freshHasNoPreconditions();
    freshLengthTermsAreZero();
    freshParametersAreZero();
    freshCellsAreZero();
    freshAccAndTrapAt();
    objectsShareNothing();
    Due.finish();
  }

  private static int roomForInstructions(IndexTypeChecker t) {
    int taken = 0;
    while (taken < 100 && Emit.set(t, 1)) {
      taken++;
    }
    return taken;
  }

  private static int roomForPreconditions(IndexTypeChecker t) {
    int taken = 0;
    while (taken < 100 && t.addPre(1, 1, 0)) {
      taken++;
    }
    return taken;
  }

  private static void programCapIs(int given, int due) {
    IndexTypeChecker t = new IndexTypeChecker(given, 4);
    Due.is("instructions taken with programCap " + given, roomForInstructions(t), due);
    Due.is("size() with programCap " + given, t.size(), due);
  }

  private static void preCapIs(int given, int due) {
    IndexTypeChecker t = new IndexTypeChecker(8, given);
    Due.is("preconditions taken with preCap " + given, roomForPreconditions(t), due);
  }

  /** "programCap ... is clamped into [8, 32]"; "A value below the least becomes the least". */
  private static void programCapBelowTheLeastBecomesTheLeast() {
    for (int given : new int[] {LOW, LOW + 1, -32, -8, -1, 0, 1, 6, 7}) {
      programCapIs(given, 8);
    }
  }

  /** "values in range are kept as given". */
  private static void programCapInRangeIsKept() {
    for (int given = 8; given <= 32; given++) {
      programCapIs(given, given);
    }
  }

  /** "a value above the greatest [becomes] the greatest". */
  private static void programCapAboveTheGreatestBecomesTheGreatest() {
    for (int given : new int[] {33, 34, 64, 264, 65544, HIGH - 1, HIGH}) {
      programCapIs(given, 32);
    }
  }

  /** "preCap ... is clamped into [4, 16]"; "A value below the least becomes the least". */
  private static void preCapBelowTheLeastBecomesTheLeast() {
    for (int given : new int[] {LOW, LOW + 1, -16, -4, -1, 0, 1, 2, 3}) {
      preCapIs(given, 4);
    }
  }

  /** "values in range are kept as given". */
  private static void preCapInRangeIsKept() {
    for (int given = 4; given <= 16; given++) {
      preCapIs(given, given);
    }
  }

  /** "a value above the greatest [becomes] the greatest". */
  private static void preCapAboveTheGreatestBecomesTheGreatest() {
    for (int given : new int[] {17, 18, 32, 260, 65540, HIGH - 1, HIGH}) {
      preCapIs(given, 16);
    }
  }

  private static void theCapsAreClampedEachAlone() {
    int[][] cases = {{8, 16}, {32, 4}, {LOW, HIGH}, {HIGH, LOW}, {16, 8}, {4, 32}};
    int[][] due = {{8, 16}, {32, 4}, {8, 16}, {32, 4}, {16, 8}, {8, 16}};
    for (int n = 0; n < cases.length; n++) {
      String caps = " with caps " + cases[n][0] + " and " + cases[n][1];
      IndexTypeChecker t = new IndexTypeChecker(cases[n][0], cases[n][1]);
      Due.is("instructions taken" + caps, roomForInstructions(t), due[n][0]);
      Due.is("preconditions taken" + caps, roomForPreconditions(t), due[n][1]);
    }
  }

  /** "Both caps stay fixed for the life of the object." */
  private static void bothCapsStayFixed() {
    int[][] caps = {{8, 4}, {9, 5}, {31, 15}, {32, 16}};
    for (int[] cap : caps) {
      IndexTypeChecker t = new IndexTypeChecker(cap[0], cap[1]);
      for (int round = 0; round < 4; round++) {
        Due.is("room for instructions in round " + round, roomForInstructions(t), cap[0]);
        Due.is("room for preconditions in round " + round, roomForPreconditions(t), cap[1]);
        t.run(100);
        t.check();
        t.declare(0, 1, 5);
        t.setParam(1, 20);
        t.run(100);
        Due.no("no room is made by other calls", Emit.set(t, 1));
        Due.no("no room is made by other calls", t.addPre(1, 1, 0));
        t.clearProgram();
        t.clearPre();
      }
    }
  }

  private static IndexTypeChecker[] freshOnes() {
    int[] caps = {LOW, -1, 0, 4, 8, 16, 20, 32, 33, HIGH};
    IndexTypeChecker[] made = new IndexTypeChecker[caps.length];
    for (int n = 0; n < caps.length; n++) {
      made[n] = new IndexTypeChecker(caps[n], caps[caps.length - 1 - n]);
    }
    return made;
  }

  /** "no instructions (size() is 0, no block open)". */
  private static void freshProgramIsEmpty() {
    for (IndexTypeChecker t : freshOnes()) {
      Due.is("fresh size()", t.size(), 0);
      Due.is("fresh check()", t.check(), IndexTypeChecker.ACCEPTED);
      Due.is("fresh accessStatus(0)", t.accessStatus(0), IndexTypeChecker.ST_NOT_ACCESS);
      Due.is("fresh run(5)", t.run(5), IndexTypeChecker.RUN_DONE);
      Due.no("fresh END", Emit.end(t));
      for (int v = 4; v < 8; v++) {
        Due.no("fresh LOAD with loop variable " + v, Emit.load(t, 0, v, 0));
      }
    }
  }

  /** "no preconditions". */
  private static void freshHasNoPreconditions() {
    for (IndexTypeChecker t : freshOnes()) {
      Due.yes("fresh consistent()", t.consistent());
      for (int x = 0; x < 4; x++) {
        for (int y = 0; y < 4; y++) {
          Due.is("fresh implies(" + x + ", " + y + ", 1000)", t.implies(x, y, 1000) ? 1 : 0, x == y ? 1 : 0);
        }
      }
      for (int p = 1; p < 4; p++) {
        t.setParam(p, p % 2 == 0 ? 1000 : -1000);
      }
      Due.is("no parameters make a fresh run refused", t.run(5), IndexTypeChecker.RUN_DONE);
    }
    Twins.unchanged("clearPre() on fresh", States::fresh, IndexTypeChecker::clearPre);
  }

  /** "every length term (0, 0)". */
  private static void freshLengthTermsAreZero() {
    for (IndexTypeChecker t : freshOnes()) {
      for (int a = 0; a < 4; a++) {
        t.clearProgram();
        Emit.load(t, a, 0, -1);
        Emit.load(t, a, 0, 0);
        Emit.load(t, a, 0, 1);
        Emit.load(t, a, 1, -1);
        Due.is("status of -1 in fresh array " + a, t.accessStatus(0), IndexTypeChecker.ST_LOW_FAIL);
        Due.is("status of 0 in fresh array " + a, t.accessStatus(1), IndexTypeChecker.ST_HIGH_FAIL);
        Due.is("status of 1 in fresh array " + a, t.accessStatus(2), IndexTypeChecker.ST_HIGH_FAIL);
        Due.is("status of n - 1 in fresh array " + a, t.accessStatus(3), IndexTypeChecker.ST_BOTH_FAIL);
      }
    }
    for (int a = 0; a < 4; a++) {
      int array = a;
      Twins.unchanged("declare(" + a + ", 0, 0) on fresh", States::fresh, t -> t.declare(array, 0, 0));
    }
  }

  /** "parameters 1..3 all of value 0". */
  private static void freshParametersAreZero() {
    for (int p = 1; p < 4; p++) {
      for (int c = -1; c <= 1; c++) {
        IndexTypeChecker t = States.fresh();
        Emit.when(t, p, 0, c);
        Emit.set(t, 1);
        Emit.end(t);
        t.run(9);
        Due.is("acc() of IF " + p + " - 0 <= " + c, t.acc(), c >= 0 ? 1 : 0);
        t.clearProgram();
        Emit.when(t, 0, p, c);
        Emit.set(t, 1);
        Emit.end(t);
        t.run(9);
        Due.is("acc() of IF 0 - " + p + " <= " + c, t.acc(), c >= 0 ? 1 : 0);
      }
      int parameter = p;
      Twins.unchanged("setParam(" + p + ", 0) on fresh", States::fresh, t -> t.setParam(parameter, 0));
    }
  }

  /** "every cell of every array 0". */
  private static void freshCellsAreZero() {
    for (IndexTypeChecker t : freshOnes()) {
      for (int a = 0; a < 4; a++) {
        for (int i = 0; i < 16; i++) {
          Due.is("fresh cell(" + a + ", " + i + ")", t.cell(a, i), 0);
        }
      }
    }
  }

  /** "acc() 0 and trapAt() -1". */
  private static void freshAccAndTrapAt() {
    for (IndexTypeChecker t : freshOnes()) {
      Due.is("fresh acc()", t.acc(), 0);
      Due.is("fresh trapAt()", t.trapAt(), -1);
    }
  }

  private static void objectsShareNothing() {
    Twins.same("a fresh object beside a used one", () -> {
      IndexTypeChecker t = States.fresh();
      States.closed().run(100);
      States.full().check();
      return t;
    }, States::fresh);
  }
}
