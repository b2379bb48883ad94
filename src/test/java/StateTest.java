/** Promises 1 to 7 and 14: what is stored, and what is refused. */
public final class StateTest {
  private static final int LOW = Integer.MIN_VALUE;
  private static final int HIGH = Integer.MAX_VALUE;
  private static final int[] NO_SIZE_VARIABLE = {LOW, -1, 4, 7, 8, HIGH};
  private static final int[] NO_ARRAY = {LOW, -1, 4, 5, HIGH};
  private static final int[] NO_CONSTANT = {LOW, -1001, 1001, HIGH};
  private static final int[] NO_CELL = {LOW, -1, 16, 17, 64, HIGH};

  public static void main(String[] args) {
    freshState();
    programCapIsClamped();
    preCapIsClamped();
    addPre();
    addPreRefuses();
    clearPreKeepsTheRest();
    declare();
    declareRefuses();
    declareLaterCounts();
    emitRefusesOpcodes();
    emitLoop();
    emitIf();
    emitEnd();
    emitSet();
    emitAccess();
    emitFull();
    loopVariableIsFreedByItsOwnEnd();
    clearProgramKeepsTheRest();
    setParam();
    setCell();
    sizeCounts();
    Due.finish();
  }

  private static IndexTypeChecker fresh() {
    return new IndexTypeChecker(32, 16);
  }

  private static void freshState() {
    int[] caps = {LOW, -1, 0, 20, 100, HIGH};
    for (int cap : caps) {
      IndexTypeChecker t = new IndexTypeChecker(cap, cap);
      Due.is("fresh size()", t.size(), 0);
      Due.is("fresh acc()", t.acc(), 0);
      Due.is("fresh trapAt()", t.trapAt(), -1);
      Due.is("fresh check()", t.check(), IndexTypeChecker.ACCEPTED);
      Due.yes("fresh consistent()", t.consistent());
      Due.no("fresh implies(0, 1, 1000)", t.implies(0, 1, 1000));
      Due.no("fresh emit END", t.emit(3, 0, 0, 0));
      for (int a = 0; a < 4; a++) {
        for (int i = 0; i < 16; i++) {
          Due.is("fresh cell(" + a + ", " + i + ")", t.cell(a, i), 0);
        }
      }
      Due.is("fresh run(5)", t.run(5), IndexTypeChecker.RUN_DONE);
    }
    freshLengthsAndParameters();
  }

  private static void freshLengthsAndParameters() {
    for (int a = 0; a < 4; a++) {
      IndexTypeChecker t = fresh();
      t.emit(5, a, 0, -1);
      t.emit(5, a, 0, 0);
      Due.is("index -1 of length 0", t.accessStatus(0), IndexTypeChecker.ST_LOW_FAIL);
      Due.is("index 0 of length 0", t.accessStatus(1), IndexTypeChecker.ST_HIGH_FAIL);
    }
    for (int p = 1; p < 4; p++) {
      IndexTypeChecker t = fresh();
      t.emit(2, p, 0, 0);
      t.emit(2, 0, p, 0);
      t.emit(4, 0, 0, 7);
      t.emit(3, 0, 0, 0);
      t.emit(3, 0, 0, 0);
      Due.is("run with parameter " + p + " fresh", t.run(100), IndexTypeChecker.RUN_DONE);
      Due.is("acc() shows that parameter " + p + " is 0", t.acc(), 7);
    }
  }

  private static void programCapIsClamped() {
    int[][] caps = {{LOW, 8}, {-1, 8}, {0, 8}, {7, 8}, {8, 8}, {9, 9}, {20, 20}, {31, 31}, {32, 32}, {33, 32}, {HIGH, 32}};
    for (int[] cap : caps) {
      IndexTypeChecker t = new IndexTypeChecker(cap[0], 4);
      for (int round = 0; round < 2; round++) {
        int taken = 0;
        while (taken < 100 && t.emit(4, 0, 0, 1)) {
          taken++;
        }
        Due.is("instructions taken with programCap " + cap[0], taken, cap[1]);
        Due.is("size() when full", t.size(), cap[1]);
        t.clearProgram();
      }
    }
  }

  private static void preCapIsClamped() {
    int[][] caps = {{LOW, 4}, {-1, 4}, {0, 4}, {3, 4}, {4, 4}, {5, 5}, {10, 10}, {15, 15}, {16, 16}, {17, 16}, {HIGH, 16}};
    for (int[] cap : caps) {
      IndexTypeChecker t = new IndexTypeChecker(8, cap[0]);
      for (int round = 0; round < 2; round++) {
        int taken = 0;
        while (taken < 100 && t.addPre(1, 1, 0)) {
          taken++;
        }
        Due.is("preconditions taken with preCap " + cap[0], taken, cap[1]);
        t.clearPre();
      }
    }
  }

  private static void addPre() {
    for (int x = 0; x < 4; x++) {
      for (int y = 0; y < 4; y++) {
        for (int c = -1000; c <= 1000; c += 1000) {
          IndexTypeChecker t = fresh();
          String call = "addPre(" + x + ", " + y + ", " + c + ")";
          Due.yes(call, t.addPre(x, y, c));
          Due.yes("implied after " + call, t.implies(x, y, c));
          Due.is("consistent() after " + call, t.consistent() ? 1 : 0, x == y && c < 0 ? 0 : 1);
        }
      }
    }
    IndexTypeChecker t = fresh();
    t.addPre(1, 2, 5);
    t.addPre(1, 2, 9);
    Due.yes("the looser duplicate does not replace the tighter", t.implies(1, 2, 5));
  }

  private static void addPreRefuses() {
    IndexTypeChecker t = new IndexTypeChecker(8, 4);
    for (int bad : NO_SIZE_VARIABLE) {
      Due.no("addPre(" + bad + ", 0, 0)", t.addPre(bad, 0, 0));
      Due.no("addPre(0, " + bad + ", 0)", t.addPre(0, bad, 0));
    }
    for (int bad : NO_CONSTANT) {
      Due.no("addPre(1, 0, " + bad + ")", t.addPre(1, 0, bad));
    }
    Due.yes("refused preconditions leave consistent()", t.consistent());
    Due.no("refused preconditions imply nothing", t.implies(1, 0, 1000));
    for (int n = 0; n < 4; n++) {
      Due.yes("refused preconditions take no room", t.addPre(0, 1, 0));
    }
    Due.no("addPre when full", t.addPre(1, 0, -1));
    Due.yes("the one past the cap is not stored", t.consistent());
  }

  private static void clearPreKeepsTheRest() {
    IndexTypeChecker t = trapped();
    t.addPre(1, 1, -1);
    Due.no("consistent() before clearPre()", t.consistent());
    t.clearPre();
    Due.yes("consistent() after clearPre()", t.consistent());
    Due.no("implies(2, 0, 3) after clearPre()", t.implies(2, 0, 3));
    Due.is("size() after clearPre()", t.size(), 3);
    trappedStateIsKept(t, "clearPre()");
    Due.is("run after clearPre()", t.run(100), IndexTypeChecker.RUN_TRAP);
    Due.is("trapAt() after clearPre() and run", t.trapAt(), 2);
    Due.is("acc() after clearPre() and run", t.acc(), 41);
  }

  /** Length of array 1 is parameter 2, which is 3: instruction 2 traps on index 3. */
  private static IndexTypeChecker trapped() {
    IndexTypeChecker t = fresh();
    t.addPre(2, 0, 3);
    t.declare(1, 2, 0);
    t.setParam(2, 3);
    t.setCell(3, 15, -9);
    t.emit(4, 0, 0, 41);
    t.emit(7, 1, 2, -1);
    t.emit(7, 1, 2, 0);
    t.run(100);
    trappedStateIsKept(t, "run(100)");
    return t;
  }

  private static void trappedStateIsKept(IndexTypeChecker t, String after) {
    Due.is("acc() after " + after, t.acc(), 41);
    Due.is("trapAt() after " + after, t.trapAt(), 2);
    Due.is("cell(1, 2) after " + after, t.cell(1, 2), 41);
    Due.is("cell(1, 3) after " + after, t.cell(1, 3), 0);
    Due.is("cell(3, 15) after " + after, t.cell(3, 15), -9);
  }

  private static void declare() {
    for (int a = 0; a < 4; a++) {
      for (int lv = 0; lv < 4; lv++) {
        for (int lc = -1000; lc <= 1000; lc += 500) {
          IndexTypeChecker t = fresh();
          t.setCell(a, 15, 6);
          Due.yes("declare(" + a + ", " + lv + ", " + lc + ")", t.declare(a, lv, lc));
          Due.is("cell after declare", t.cell(a, 15), 6);
          t.emit(5, a, lv, lc);
          boolean known = lv == 0 && lc >= 0;
          Due.is("status one past the last index", t.accessStatus(0),
              known ? IndexTypeChecker.ST_HIGH_FAIL : IndexTypeChecker.ST_BOTH_FAIL);
          // Below -1000 there is no constant left for the last index.
          if (lc > -1000) {
            t.emit(5, a, lv, lc - 1);
            known = lv == 0 && lc >= 1;
            Due.is("status at the last index", t.accessStatus(1),
                known ? IndexTypeChecker.ST_OK : IndexTypeChecker.ST_LOW_FAIL);
          }
        }
      }
    }
  }

  private static void declareRefuses() {
    IndexTypeChecker t = fresh();
    t.declare(0, 0, 5);
    t.emit(5, 0, 0, 4);
    for (int bad : NO_ARRAY) {
      Due.no("declare(" + bad + ", 0, 0)", t.declare(bad, 0, 0));
    }
    for (int bad : NO_SIZE_VARIABLE) {
      Due.no("declare(0, " + bad + ", 0)", t.declare(0, bad, 0));
    }
    for (int bad : NO_CONSTANT) {
      Due.no("declare(0, 0, " + bad + ")", t.declare(0, 0, bad));
    }
    Due.is("accessStatus(0) after refused declares", t.accessStatus(0), IndexTypeChecker.ST_OK);
    Due.is("run after refused declares", t.run(9), IndexTypeChecker.RUN_DONE);
  }

  private static void declareLaterCounts() {
    IndexTypeChecker t = fresh();
    t.emit(1, 4, 0, 3);
    t.emit(6, 0, 4, 0);
    Due.is("status before declare", t.accessStatus(1), IndexTypeChecker.ST_HIGH_FAIL);
    Due.yes("declare in an open block", t.declare(0, 0, 3));
    Due.is("status after declare", t.accessStatus(1), IndexTypeChecker.ST_OK);
    Due.no("the block is still open", t.emit(1, 4, 0, 3));
    t.emit(3, 0, 0, 0);
    Due.is("check() with length 3", t.check(), IndexTypeChecker.ACCEPTED);
    Due.is("run with length 3", t.run(100), IndexTypeChecker.RUN_DONE);
    t.declare(0, 0, 2);
    Due.is("check() with length 2", t.check(), 1);
    Due.is("run with length 2", t.run(100), IndexTypeChecker.RUN_TRAP);
    t.declare(0, 0, 16);
    Due.is("run with length 16", t.run(100), IndexTypeChecker.RUN_DONE);
  }

  private static void emitRefusesOpcodes() {
    IndexTypeChecker t = fresh();
    t.emit(1, 4, 0, 1);
    int[] bad = {LOW, -1, 0, 8, 9, HIGH};
    for (int op : bad) {
      Due.no("emit(" + op + ", 0, 0, 0)", t.emit(op, 0, 0, 0));
      Due.no("emit(" + op + ", 5, 0, 0)", t.emit(op, 5, 0, 0));
    }
    Due.is("size() after refused emits", t.size(), 1);
  }

  private static void emitLoop() {
    for (int a = 4; a < 8; a++) {
      for (int v = 0; v < 4; v++) {
        Due.yes("emit LOOP " + a + " " + v + " -1000", fresh().emit(1, a, v, -1000));
        Due.yes("emit LOOP " + a + " " + v + " 1000", fresh().emit(1, a, v, 1000));
      }
    }
    IndexTypeChecker t = fresh();
    int[] noLoopVariable = {LOW, -1, 0, 3, 8, HIGH};
    for (int bad : noLoopVariable) {
      Due.no("emit LOOP " + bad, t.emit(1, bad, 0, 1));
    }
    int[] unbound = {LOW, -1, 4, 5, 6, 7, 8, HIGH};
    for (int bad : unbound) {
      Due.no("emit LOOP 4 " + bad, t.emit(1, 4, bad, 1));
    }
    for (int bad : NO_CONSTANT) {
      Due.no("emit LOOP 4 0 " + bad, t.emit(1, 4, 0, bad));
    }
    Due.is("size() after refused LOOPs", t.size(), 0);
    Due.is("no block is open after refused LOOPs", t.check(), IndexTypeChecker.ACCEPTED);
    Due.yes("LOOP 5 0 1", t.emit(1, 5, 0, 1));
    Due.no("LOOP 5 again while open", t.emit(1, 5, 0, 1));
    Due.no("LOOP 4 under its own variable", t.emit(1, 4, 4, 1));
    Due.yes("LOOP 4 under the outer variable", t.emit(1, 4, 5, 1));
    Due.no("LOOP 5 two blocks down", t.emit(1, 5, 4, 1));
    Due.yes("LOOP 7 5 0", t.emit(1, 7, 5, 0));
    Due.yes("LOOP 6 7 0", t.emit(1, 6, 7, 0));
    Due.is("size() with four loops open", t.size(), 4);
  }

  private static void emitIf() {
    IndexTypeChecker t = fresh();
    int[] unbound = {LOW, -1, 4, 5, 6, 7, 8, HIGH};
    for (int bad : unbound) {
      Due.no("emit IF " + bad + " 0", t.emit(2, bad, 0, 0));
      Due.no("emit IF 0 " + bad, t.emit(2, 0, bad, 0));
    }
    for (int bad : NO_CONSTANT) {
      Due.no("emit IF 0 0 " + bad, t.emit(2, 0, 0, bad));
    }
    Due.is("size() after refused IFs", t.size(), 0);
    Due.is("no block is open after refused IFs", t.check(), IndexTypeChecker.ACCEPTED);
    for (int x = 0; x < 4; x++) {
      Due.yes("emit IF " + x + " 3 1000", t.emit(2, x, 3, 1000));
      Due.yes("emit IF 3 " + x + " -1000", t.emit(2, 3, x, -1000));
    }
    Due.yes("emit LOOP 6", t.emit(1, 6, 0, 1));
    Due.yes("emit IF 6 6", t.emit(2, 6, 6, 0));
    Due.no("emit IF 5 6", t.emit(2, 5, 6, 0));
    Due.no("IF binds nothing: LOAD 0 5", t.emit(5, 0, 5, 0));
  }

  private static void emitEnd() {
    IndexTypeChecker t = fresh();
    Due.no("END without a block", t.emit(3, 0, 0, 0));
    t.emit(4, 0, 0, 1);
    Due.no("END after SET", t.emit(3, 0, 0, 0));
    t.emit(2, 0, 0, 0);
    t.emit(1, 4, 0, 1);
    Due.yes("END of the LOOP, odd operands", t.emit(3, LOW, HIGH, 5000));
    Due.is("one block is still open", t.check(), IndexTypeChecker.INCOMPLETE);
    Due.yes("END of the IF, odd operands", t.emit(3, 99, -99, LOW));
    Due.is("all blocks are closed", t.check(), IndexTypeChecker.ACCEPTED);
    Due.no("END past the last block", t.emit(3, 0, 0, 0));
    Due.is("size() after the ENDs", t.size(), 5);
    Due.is("run over odd operands", t.run(100), IndexTypeChecker.RUN_DONE);
  }

  private static void emitSet() {
    IndexTypeChecker t = fresh();
    for (int bad : NO_CONSTANT) {
      Due.no("SET " + bad, t.emit(4, 0, 0, bad));
    }
    Due.is("size() after refused SETs", t.size(), 0);
    Due.yes("SET 1000, odd operands", t.emit(4, HIGH, LOW, 1000));
    Due.is("run", t.run(9), IndexTypeChecker.RUN_DONE);
    Due.is("acc() after SET 1000", t.acc(), 1000);
    Due.yes("SET -1000, odd operands", t.emit(4, -5, 4, -1000));
    Due.is("run", t.run(9), IndexTypeChecker.RUN_DONE);
    Due.is("acc() after SET -1000", t.acc(), -1000);
  }

  private static void emitAccess() {
    for (int op = 5; op <= 7; op++) {
      IndexTypeChecker t = fresh();
      for (int bad : NO_ARRAY) {
        Due.no("emit(" + op + ", " + bad + ", 0, 0)", t.emit(op, bad, 0, 0));
      }
      int[] unbound = {LOW, -1, 4, 5, 6, 7, 8, HIGH};
      for (int bad : unbound) {
        Due.no("emit(" + op + ", 0, " + bad + ", 0)", t.emit(op, 0, bad, 0));
      }
      for (int bad : NO_CONSTANT) {
        Due.no("emit(" + op + ", 0, 0, " + bad + ")", t.emit(op, 0, 0, bad));
      }
      Due.is("size() after refused accesses", t.size(), 0);
      for (int n = 0; n < 4; n++) {
        Due.yes("emit(" + op + ", " + n + ", 0, 1000)", t.emit(op, n, 0, 1000));
        Due.yes("emit(" + op + ", 0, " + n + ", -1000)", t.emit(op, 0, n, -1000));
      }
      t.emit(1, 5, 0, 1);
      Due.yes("emit(" + op + ", 3, 5, 0) in LOOP 5", t.emit(op, 3, 5, 0));
      Due.no("emit(" + op + ", 3, 4, 0) in LOOP 5", t.emit(op, 3, 4, 0));
      t.emit(3, 0, 0, 0);
      Due.no("emit(" + op + ", 3, 5, 0) after LOOP 5", t.emit(op, 3, 5, 0));
    }
  }

  private static void emitFull() {
    IndexTypeChecker t = new IndexTypeChecker(8, 4);
    for (int n = 0; n < 8; n++) {
      t.emit(2, 0, 0, 0);
    }
    Due.no("END when full", t.emit(3, 0, 0, 0));
    Due.no("SET when full", t.emit(4, 0, 0, 0));
    Due.no("an unknown opcode when full", t.emit(0, 0, 0, 0));
    Due.is("size() when full", t.size(), 8);
    Due.is("check() when full with blocks open", t.check(), IndexTypeChecker.INCOMPLETE);
  }

  private static void loopVariableIsFreedByItsOwnEnd() {
    IndexTypeChecker t = fresh();
    t.emit(1, 4, 0, 1);
    t.emit(2, 4, 0, 0);
    t.emit(3, 0, 0, 0);
    Due.no("LOOP 4 after the END of an inner IF", t.emit(1, 4, 0, 1));
    Due.yes("LOAD 0 4 after the END of an inner IF", t.emit(5, 0, 4, 0));
    t.emit(1, 5, 0, 1);
    t.emit(3, 0, 0, 0);
    Due.no("LOOP 4 after the END of an inner LOOP", t.emit(1, 4, 0, 1));
    Due.yes("LOOP 5 again", t.emit(1, 5, 4, 1));
    t.emit(3, 0, 0, 0);
    t.emit(3, 0, 0, 0);
    Due.no("LOOP 5 4 after the END of LOOP 4", t.emit(1, 5, 4, 0));
    Due.yes("LOOP 4 again", t.emit(1, 4, 0, 1));
  }

  private static void clearProgramKeepsTheRest() {
    IndexTypeChecker t = trapped();
    t.emit(1, 4, 0, 1);
    t.clearProgram();
    Due.is("size() after clearProgram()", t.size(), 0);
    Due.is("check() after clearProgram()", t.check(), IndexTypeChecker.ACCEPTED);
    Due.is("accessStatus(1) after clearProgram()", t.accessStatus(1), IndexTypeChecker.ST_NOT_ACCESS);
    Due.no("END after clearProgram()", t.emit(3, 0, 0, 0));
    Due.no("loop variable 4 is not bound after clearProgram()", t.emit(5, 0, 4, 0));
    trappedStateIsKept(t, "clearProgram()");
    Due.yes("the precondition is kept", t.implies(2, 0, 3));
    Due.yes("LOOP 4 after clearProgram()", t.emit(1, 4, 2, 0));
    t.emit(6, 1, 4, 0);
    t.emit(3, 0, 0, 0);
    Due.is("the length term is kept", t.accessStatus(1), IndexTypeChecker.ST_OK);
    Due.is("run after clearProgram()", t.run(100), IndexTypeChecker.RUN_DONE);
    Due.is("parameter and cells are kept", t.acc(), 41);
  }

  private static void setParam() {
    IndexTypeChecker t = fresh();
    t.declare(0, 1, 0);
    t.addPre(0, 1, 0);
    t.emit(1, 4, 1, 0);
    t.emit(5, 0, 4, 0);
    t.emit(3, 0, 0, 0);
    int[] noParameter = {LOW, -1, 0, 4, 5, 7, 8, HIGH};
    for (int bad : noParameter) {
      Due.no("setParam(" + bad + ", 1)", t.setParam(bad, 1));
    }
    for (int bad : NO_CONSTANT) {
      Due.no("setParam(1, " + bad + ")", t.setParam(1, bad));
    }
    Due.is("fuel 1 suffices while parameter 1 is 0", t.run(1), IndexTypeChecker.RUN_DONE);
    for (int p = 1; p < 4; p++) {
      Due.yes("setParam(" + p + ", -1000)", t.setParam(p, -1000));
      Due.yes("setParam(" + p + ", 1000)", t.setParam(p, 1000));
    }
    Due.is("run with length 1000", t.run(1), IndexTypeChecker.RUN_REFUSED);
    Due.yes("consistent() does not see parameters", t.consistent());
    Due.no("implies(1, 0, 1000) does not see parameters", t.implies(1, 0, 1000));
    Due.is("check() does not see parameters", t.check(), IndexTypeChecker.ACCEPTED);
    t.setParam(1, -5);
    Due.yes("consistent() does not see a false precondition", t.consistent());
    Due.is("accessStatus(1) does not see parameters", t.accessStatus(1), IndexTypeChecker.ST_OK);
    Due.is("run with a false precondition", t.run(1), IndexTypeChecker.RUN_REFUSED);
    eachParameterIsItsOwn();
  }

  private static void eachParameterIsItsOwn() {
    IndexTypeChecker t = fresh();
    for (int p = 1; p < 4; p++) {
      t.declare(p, p, 0);
      t.setParam(p, 4 * p);
      t.setCell(p, 4 * p - 1, p);
    }
    for (int p = 1; p < 4; p++) {
      t.clearProgram();
      t.emit(5, p, p, -1);
      Due.is("run", t.run(9), IndexTypeChecker.RUN_DONE);
      Due.is("acc() of the last cell under parameter " + p, t.acc(), p);
    }
  }

  private static void setCell() {
    IndexTypeChecker t = fresh();
    for (int a = 0; a < 4; a++) {
      for (int i = 0; i < 16; i++) {
        Due.yes("setCell(" + a + ", " + i + ")", t.setCell(a, i, 100 * a + i - 50));
      }
    }
    for (int bad : NO_ARRAY) {
      Due.no("setCell(" + bad + ", 0, 1)", t.setCell(bad, 0, 1));
      Due.is("cell(" + bad + ", 0)", t.cell(bad, 0), 0);
    }
    for (int bad : NO_CELL) {
      Due.no("setCell(1, " + bad + ", 1)", t.setCell(1, bad, 1));
      Due.is("cell(1, " + bad + ")", t.cell(1, bad), 0);
    }
    for (int a = 0; a < 4; a++) {
      for (int i = 0; i < 16; i++) {
        Due.is("cell(" + a + ", " + i + ")", t.cell(a, i), 100 * a + i - 50);
      }
    }
    Due.yes("setCell of the least int", t.setCell(0, 0, LOW));
    Due.is("cell of the least int", t.cell(0, 0), LOW);
    Due.yes("setCell of the greatest int", t.setCell(3, 15, HIGH));
    Due.is("cell of the greatest int", t.cell(3, 15), HIGH);
    t.declare(3, 0, -1000);
    Due.is("cell under a negative length", t.cell(3, 15), HIGH);
    Due.yes("setCell under a negative length", t.setCell(3, 15, 8));
    Due.is("acc() after setCell", t.acc(), 0);
  }

  private static void sizeCounts() {
    IndexTypeChecker t = new IndexTypeChecker(10, 4);
    for (int n = 1; n <= 10; n++) {
      Due.no("a refused emit", t.emit(5, 0, 4, 0));
      Due.yes("SET", t.emit(4, 0, 0, n));
      Due.is("size()", t.size(), n);
      t.run(100);
      t.check();
      t.clearPre();
      Due.is("size() after other calls", t.size(), n);
    }
    Due.no("SET when full", t.emit(4, 0, 0, 0));
    Due.is("size() when full", t.size(), 10);
    t.clearProgram();
    Due.is("size() after clearProgram()", t.size(), 0);
  }
}
