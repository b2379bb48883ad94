/** All promises: long runs of made-up calls, right and wrong, each answered by the model too. */
public final class ModelTest {
  private static final int[] ODD = {
    Integer.MIN_VALUE, -1001, -1000, -999, -1, 0, 1, 3, 4, 7, 8, 15, 16, 17, 999, 1000, 1001, Integer.MAX_VALUE
  };

  private static final int[] runs = new int[4];
  private static final int[] statuses = new int[5];
  private static int acceptedRuns = 0;
  private static int acceptedAccesses = 0;

  private final Numbers n;
  private final IndexTypeChecker t;
  private final Model m;
  private final String where;
  // Whether constants lie far apart, so that sums of them leave the range of one.
  private final boolean far;

  private ModelTest(int seed) {
    n = new Numbers(seed);
    int programCap = n.oneIn(3) ? n.oneOf(ODD) : n.between(6, 34);
    int preCap = n.oneIn(3) ? n.oneOf(ODD) : n.between(2, 18);
    t = new IndexTypeChecker(programCap, preCap);
    m = new Model(programCap, preCap);
    where = "seed " + seed + ": ";
    far = seed % 4 == 0;
  }

  public static void main(String[] args) {
    for (int seed = 1; seed <= 3000 && Due.wrong() < 20; seed++) {
      new ModelTest(seed).play(120);
    }
    for (int answer = 0; answer < 4; answer++) {
      Due.yes("run answer " + answer + " was met often: " + runs[answer], runs[answer] > 500);
    }
    for (int status = 0; status < 5; status++) {
      Due.yes("status " + status + " was met often: " + statuses[status], statuses[status] > 500);
    }
    Due.yes("accepted programs were run often: " + acceptedRuns, acceptedRuns > 500);
    Due.yes("accepted programs had accesses: " + acceptedAccesses, acceptedAccesses > 500);
    Due.finish();
  }

  private void play(int calls) {
    for (int call = 0; call < calls; call++) {
      change();
      ask();
      if (n.oneIn(20)) {
        sensibleProgram();
        ask();
        runBoth(n.between(0, 100));
        ask();
      }
    }
  }

  /** Loops over one size and arrays of about that length, so that many programs are accepted. */
  private void sensibleProgram() {
    int p = n.between(1, 3);
    t.clearProgram();
    m.clearProgram();
    t.clearPre();
    m.clearPre();
    addPre(0, p, n.between(-1, 0));
    setParam(p, n.between(0, 8));
    for (int a = 0; a < 4; a++) {
      declare(a, p, n.between(0, 2));
    }
    int depth = n.between(1, 3);
    for (int i = 0; i < depth; i++) {
      emit(1, 4 + i, i == 0 || n.oneIn(2) ? p : 3 + i, n.between(-1, 1));
      if (n.oneIn(2)) {
        emit(2, 0, 4 + i, n.between(-1, 0));
      }
      emit(n.between(5, 7), n.between(0, 3), 4 + i, n.between(-1, 1));
      emit(n.between(5, 7), n.between(0, 3), 4 + i, 0);
    }
    for (int end = 0; end < 2 * depth; end++) {
      emit(3, 0, 0, 0);
    }
  }

  private int variable() {
    return n.oneIn(25) ? n.oneOf(ODD) : n.oneIn(3) ? n.between(4, 7) : n.between(0, 3);
  }

  private int sizeVariable() {
    return n.oneIn(25) ? n.oneOf(ODD) : n.between(0, 3);
  }

  private int array() {
    return n.oneIn(25) ? n.oneOf(ODD) : n.between(0, 3);
  }

  private int constant() {
    return n.oneIn(25) ? n.oneOf(ODD) : between(-3, 5);
  }

  private int between(int least, int greatest) {
    return far ? 333 * n.between(-3, 3) + n.between(-1, 1) : n.between(least, greatest);
  }

  private void change() {
    switch (n.between(0, 31)) {
      case 0 -> {
        t.clearPre();
        m.clearPre();
      }
      case 1 -> {
        if (n.oneIn(3)) {
          t.clearProgram();
          m.clearProgram();
        }
      }
      case 2, 3 -> addPre(sizeVariable(), sizeVariable(), n.oneIn(4) ? constant() : between(0, 6));
      case 4, 5, 6 -> declare(array(), sizeVariable(), n.oneIn(20) ? n.oneOf(ODD) : between(0, 8));
      case 7, 8, 9 -> setParam(n.oneIn(9) ? n.oneOf(ODD) : n.between(1, 3), n.oneIn(20) ? n.oneOf(ODD) : between(-1, 8));
      case 10, 11 -> setCell(array(), n.oneIn(9) ? n.oneOf(ODD) : n.between(0, 15), n.oneOf(ODD));
      case 12, 13, 14, 15 -> runBoth(n.oneIn(3) ? n.oneOf(ODD) : n.between(0, 60));
      case 16, 17, 18 -> emit(3, n.oneOf(ODD), n.oneOf(ODD), n.oneOf(ODD));
      case 19, 20, 21 -> emit(1, n.oneIn(9) ? variable() : n.between(4, 7), variable(), n.oneIn(9) ? constant() : between(0, 4));
      case 22, 23, 24 -> emit(2, variable(), variable(), constant());
      case 25 -> emit(4, n.oneOf(ODD), n.oneOf(ODD), constant());
      case 26 -> emit(n.oneOf(ODD), variable(), variable(), constant());
      default -> emit(n.between(5, 7), array(), variable(), constant());
    }
  }

  private void addPre(int x, int y, int c) {
    same("addPre(" + x + ", " + y + ", " + c + ")", t.addPre(x, y, c), m.addPre(x, y, c));
  }

  private void declare(int a, int lv, int lc) {
    same("declare(" + a + ", " + lv + ", " + lc + ")", t.declare(a, lv, lc), m.declare(a, lv, lc));
  }

  private void emit(int op, int a, int v, int c) {
    same("emit(" + op + ", " + a + ", " + v + ", " + c + ")", t.emit(op, a, v, c), m.emit(op, a, v, c));
  }

  private void setParam(int p, int value) {
    same("setParam(" + p + ", " + value + ")", t.setParam(p, value), m.setParam(p, value));
  }

  private void setCell(int a, int i, int value) {
    same("setCell(" + a + ", " + i + ", " + value + ")", t.setCell(a, i, value), m.setCell(a, i, value));
  }

  private void runBoth(int fuel) {
    boolean accepted = t.check() == IndexTypeChecker.ACCEPTED;
    int answer = t.run(fuel);
    Due.is(where + "run(" + fuel + ")", answer, m.run(fuel));
    runs[answer]++;
    if (accepted && answer != IndexTypeChecker.RUN_REFUSED) {
      acceptedRuns++;
      Due.is(where + "trapAt() after an accepted run", t.trapAt(), -1);
      Due.yes(where + "an accepted run does not trap", answer != IndexTypeChecker.RUN_TRAP);
      for (int k = 0; k < t.size(); k++) {
        acceptedAccesses += t.accessStatus(k) == IndexTypeChecker.ST_OK ? 1 : 0;
      }
    }
    if (answer == IndexTypeChecker.RUN_TRAP) {
      Due.yes(where + "a trapping access has a failing status", t.accessStatus(t.trapAt()) >= 2);
    }
  }

  private void ask() {
    Due.is(where + "size()", t.size(), m.size());
    Due.is(where + "acc()", t.acc(), m.acc());
    Due.is(where + "trapAt()", t.trapAt(), m.trapAt());
    Due.is(where + "check()", t.check(), m.check());
    same("consistent()", t.consistent(), m.consistent());
    int x = sizeVariable();
    int y = sizeVariable();
    int c = constant();
    same("implies(" + x + ", " + y + ", " + c + ")", t.implies(x, y, c), m.implies(x, y, c));
    int k = n.oneIn(9) ? n.oneOf(ODD) : n.between(0, Math.max(0, t.size() - 1));
    int status = t.accessStatus(k);
    statuses[status]++;
    Due.is(where + "accessStatus(" + k + ")", status, m.accessStatus(k));
    for (int a = -1; a <= 4; a++) {
      for (int i = -1; i <= 16; i++) {
        // A text for each cell that agrees would take most of the test's time.
        if (t.cell(a, i) != m.cell(a, i)) {
          Due.is(where + "cell(" + a + ", " + i + ")", t.cell(a, i), m.cell(a, i));
        }
      }
    }
  }

  private void same(String call, boolean got, boolean want) {
    Due.is(where + call, got ? 1 : 0, want ? 1 : 0);
  }
}
