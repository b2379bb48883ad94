/** Promises 12 and 13: runs, what they leave behind, and when they are refused. */
public final class RunTest {
  private static final int LOW = Integer.MIN_VALUE;
  private static final int HIGH = Integer.MAX_VALUE;
  private static final int DONE = IndexTypeChecker.RUN_DONE;
  private static final int TRAP = IndexTypeChecker.RUN_TRAP;
  private static final int OUT = IndexTypeChecker.RUN_OUT_OF_FUEL;
  private static final int REFUSED = IndexTypeChecker.RUN_REFUSED;

  public static void main(String[] args) {
    refusedWithAnOpenBlock();
    refusedByPreconditions();
    refusedByLengths();
    refusedRunsChangeNothing();
    emptyProgram();
    fuelIsClampedBelow();
    fuelIsClampedAbove();
    everyInstructionCostsOne();
    endComesBeforeFuel();
    accesses();
    addWraps();
    trapsAtTheEdges();
    trappingStoreStoresNothing();
    trapCostsFuel();
    loopsCount();
    loopsOverNothing();
    loopBoundIsRememberedAtEntry();
    nestedLoops();
    siblingLoopsShareAVariable();
    ifTakesTheEdge();
    skippedIfJumpsPastItsOwnEnd();
    accStartsAtZero();
    runsStartAnew();
    lastRunCounts();
    Due.finish();
  }

  private static IndexTypeChecker fresh() {
    return new IndexTypeChecker(32, 16);
  }

  private static void end(IndexTypeChecker t) {
    t.emit(3, 0, 0, 0);
  }

  private static void refusedWithAnOpenBlock() {
    IndexTypeChecker t = fresh();
    t.emit(2, 0, 0, -1);
    Due.is("run with an open IF", t.run(10), REFUSED);
    end(t);
    Due.is("run with a closed IF", t.run(10), DONE);
    t.emit(1, 4, 0, 0);
    Due.is("run with an open LOOP", t.run(10), REFUSED);
    Due.is("run with an open LOOP and fuel 0", t.run(0), REFUSED);
    end(t);
    Due.is("run with a closed LOOP", t.run(10), DONE);
  }

  private static void refusedByPreconditions() {
    IndexTypeChecker t = fresh();
    t.emit(4, 0, 0, 1);
    t.addPre(1, 2, 3);
    t.setParam(1, 5);
    t.setParam(2, 2);
    Due.is("run on the edge of the precondition", t.run(10), DONE);
    t.setParam(1, 6);
    Due.is("run one past the precondition", t.run(10), REFUSED);
    t.setParam(2, 3);
    Due.is("run on the edge again", t.run(10), DONE);
    t.addPre(0, 3, -1);
    Due.is("run with parameter 3 at 0, at least 1 asked", t.run(10), REFUSED);
    t.setParam(3, 1);
    Due.is("run with parameter 3 at 1", t.run(10), DONE);
    t.addPre(1, 1, -1);
    Due.is("run with x - x <= -1", t.run(10), REFUSED);
    t.clearPre();
    Due.is("run after clearPre()", t.run(10), DONE);
    t.setParam(1, 1000);
    t.setParam(2, -1000);
    t.addPre(1, 2, 1000);
    Due.is("run with a difference of 2000", t.run(10), REFUSED);
    t.clearPre();
    Due.is("run after the only precondition is cleared", t.run(10), DONE);
  }

  private static void refusedByLengths() {
    for (int a = 0; a < 4; a++) {
      int[][] cases = {{-1000, REFUSED}, {-1, REFUSED}, {0, DONE}, {1, DONE}, {15, DONE}, {16, DONE}, {17, REFUSED}, {1000, REFUSED}};
      for (int[] one : cases) {
        IndexTypeChecker t = fresh();
        t.declare(a, 0, one[0]);
        Due.is("run with length " + one[0] + " of array " + a, t.run(10), one[1]);
        IndexTypeChecker u = fresh();
        u.declare(a, 3, one[0] < 0 ? one[0] + 5 : one[0] - 5);
        u.setParam(3, one[0] < 0 ? -5 : 5);
        Due.is("run with a length under parameter 3", u.run(10), one[1]);
      }
    }
  }

  private static void refusedRunsChangeNothing() {
    IndexTypeChecker t = fresh();
    t.declare(0, 1, 0);
    t.setParam(1, 1);
    t.emit(4, 0, 0, 9);
    t.emit(7, 0, 0, 0);
    t.emit(5, 0, 0, 1);
    Due.is("the first run", t.run(10), TRAP);
    t.setCell(0, 0, 4);
    t.setParam(1, 17);
    refusedAndKept(t, 9, 2);
    t.setParam(1, 1);
    t.addPre(1, 0, 0);
    refusedAndKept(t, 9, 2);
    t.clearPre();
    t.emit(2, 0, 0, 0);
    refusedAndKept(t, 9, 2);
    Due.is("size() is kept", t.size(), 4);
    Due.no("the block is still open", t.run(10) != REFUSED);
  }

  private static void refusedAndKept(IndexTypeChecker t, int acc, int trapAt) {
    Due.is("run", t.run(10), REFUSED);
    Due.is("acc() after a refused run", t.acc(), acc);
    Due.is("trapAt() after a refused run", t.trapAt(), trapAt);
    Due.is("cell(0, 0) after a refused run", t.cell(0, 0), 4);
  }

  private static void emptyProgram() {
    int[] fuels = {LOW, -1, 0, 1, 10000, HIGH};
    for (int fuel : fuels) {
      IndexTypeChecker t = fresh();
      Due.is("run(" + fuel + ") of an empty program", t.run(fuel), DONE);
      Due.is("acc()", t.acc(), 0);
      Due.is("trapAt()", t.trapAt(), -1);
    }
  }

  private static void fuelIsClampedBelow() {
    int[] fuels = {LOW, -1000, -1, 0};
    for (int fuel : fuels) {
      IndexTypeChecker t = fresh();
      t.emit(4, 0, 0, 5);
      Due.is("run(1)", t.run(1), DONE);
      Due.is("acc()", t.acc(), 5);
      Due.is("run(" + fuel + ")", t.run(fuel), OUT);
      Due.is("acc() after no step", t.acc(), 0);
      Due.is("trapAt() after no step", t.trapAt(), -1);
    }
  }

  /** Costs 1 + 51 * (2 + 2 * 97) = 9997 steps and one more for each SET at its end. */
  private static IndexTypeChecker longProgram(int setsAtEnd) {
    IndexTypeChecker t = fresh();
    t.emit(1, 4, 0, 51);
    t.emit(1, 5, 0, 97);
    t.emit(4, 0, 0, -3);
    end(t);
    end(t);
    for (int n = 1; n <= setsAtEnd; n++) {
      t.emit(4, 0, 0, n);
    }
    return t;
  }

  private static void fuelIsClampedAbove() {
    int[] fuels = {10000, 10001, 20000, HIGH};
    for (int fuel : fuels) {
      IndexTypeChecker t = longProgram(3);
      Due.is("run(" + fuel + ") of 10000 steps", t.run(fuel), DONE);
      Due.is("acc() after 10000 steps", t.acc(), 3);
      IndexTypeChecker u = longProgram(4);
      Due.is("run(" + fuel + ") of 10001 steps", u.run(fuel), OUT);
      Due.is("acc() after 10000 of 10001 steps", u.acc(), 3);
    }
    IndexTypeChecker t = longProgram(3);
    Due.is("run(9999) of 10000 steps", t.run(9999), OUT);
    Due.is("acc() after 9999 steps", t.acc(), 2);
    IndexTypeChecker u = fresh();
    u.emit(1, 4, 0, 1000);
    u.emit(1, 5, 4, 1000);
    end(u);
    end(u);
    Due.is("run of a program far too long", u.run(HIGH), OUT);
  }

  private static void everyInstructionCostsOne() {
    IndexTypeChecker t = fresh();
    t.declare(0, 0, 2);
    t.setCell(0, 0, 10);
    t.setCell(0, 1, 20);
    t.emit(4, 0, 0, 1);
    t.emit(1, 4, 0, 2);
    t.emit(6, 0, 4, 0);
    t.emit(2, 4, 0, 0);
    t.emit(5, 0, 4, 0);
    end(t);
    end(t);
    t.emit(2, 0, 0, -1);
    t.emit(4, 0, 0, 99);
    end(t);
    t.emit(7, 0, 0, 0);
    t.emit(4, 0, 0, 7);
    // SET, LOOP, ADD, IF, LOAD, END, END, ADD, IF (skips), END, IF (skips), STORE, SET
    int[] accAfter = {0, 1, 1, 11, 11, 10, 10, 10, 30, 30, 30, 30, 30, 7};
    for (int fuel = 0; fuel < accAfter.length; fuel++) {
      t.setCell(0, 0, 10);
      Due.is("run(" + fuel + ")", t.run(fuel), fuel < 13 ? OUT : DONE);
      Due.is("acc() after run(" + fuel + ")", t.acc(), accAfter[fuel]);
      Due.is("cell(0, 0) after run(" + fuel + ")", t.cell(0, 0), fuel < 12 ? 10 : 30);
      Due.is("trapAt() after run(" + fuel + ")", t.trapAt(), -1);
    }
  }

  private static void endComesBeforeFuel() {
    IndexTypeChecker t = fresh();
    t.emit(4, 0, 0, 1);
    t.emit(4, 0, 0, 2);
    Due.is("fuel for one of two", t.run(1), OUT);
    Due.is("fuel for just both", t.run(2), DONE);
    Due.is("fuel for more", t.run(3), DONE);
  }

  private static void accesses() {
    IndexTypeChecker t = fresh();
    for (int a = 0; a < 4; a++) {
      t.declare(a, 0, 16);
      for (int i = 0; i < 16; i++) {
        t.setCell(a, i, 1000 * a + i);
      }
    }
    t.setParam(2, 15);
    t.emit(5, 3, 2, 0);
    t.emit(6, 1, 0, 4);
    t.emit(7, 2, 2, -15);
    Due.is("run", t.run(10), DONE);
    Due.is("acc() after LOAD, ADD, STORE", t.acc(), 3015 + 1004);
    Due.is("cell(2, 0) after STORE", t.cell(2, 0), 4019);
    Due.is("cell(3, 15) is only read", t.cell(3, 15), 3015);
    Due.is("cell(1, 4) is only read", t.cell(1, 4), 1004);
    for (int a = 0; a < 4; a++) {
      for (int i = 0; i < 16; i++) {
        if (a != 2 || i != 0) {
          Due.is("cell(" + a + ", " + i + ") not stored", t.cell(a, i), 1000 * a + i);
        }
      }
    }
  }

  private static void addWraps() {
    IndexTypeChecker t = fresh();
    t.declare(0, 0, 2);
    t.emit(5, 0, 0, 0);
    t.emit(6, 0, 0, 1);
    int[][] sums = {{HIGH, 1, LOW}, {LOW, -1, HIGH}, {HIGH, HIGH, -2}, {LOW, LOW, 0}, {HIGH, LOW, -1}};
    for (int[] sum : sums) {
      t.setCell(0, 0, sum[0]);
      t.setCell(0, 1, sum[1]);
      Due.is("run", t.run(10), DONE);
      Due.is("acc() of " + sum[0] + " + " + sum[1], t.acc(), sum[2]);
    }
  }

  private static void trapsAtTheEdges() {
    for (int op = 5; op <= 7; op++) {
      for (int length = 0; length <= 16; length++) {
        for (int subscript = -1; subscript <= 17; subscript++) {
          IndexTypeChecker t = fresh();
          t.declare(1, 3, 3);
          t.setParam(3, length - 3);
          t.emit(4, 0, 0, 8);
          t.emit(op, 1, 3, subscript - (length - 3));
          boolean inside = subscript >= 0 && subscript < length;
          Due.is("run with subscript " + subscript + " of " + length, t.run(10), inside ? DONE : TRAP);
          Due.is("trapAt()", t.trapAt(), inside ? -1 : 1);
          Due.is("acc()", t.acc(), inside && op == 5 ? 0 : 8);
        }
      }
    }
    IndexTypeChecker t = fresh();
    t.emit(5, 0, 0, 0);
    Due.is("run of an access at index 0", t.run(10), TRAP);
    Due.is("trapAt() at index 0", t.trapAt(), 0);
    t.declare(0, 0, 16);
    t.setParam(1, 1000);
    t.clearProgram();
    t.emit(5, 0, 1, 1000);
    Due.is("run with subscript 2000", t.run(10), TRAP);
    t.setParam(1, -1000);
    t.clearProgram();
    t.emit(5, 0, 1, -1000);
    Due.is("run with subscript -2000", t.run(10), TRAP);
  }

  private static void trappingStoreStoresNothing() {
    IndexTypeChecker t = fresh();
    t.declare(0, 0, 2);
    t.declare(1, 0, 2);
    t.emit(4, 0, 0, 5);
    t.emit(7, 0, 0, 1);
    t.emit(7, 0, 0, 2);
    t.emit(7, 0, 0, 0);
    Due.is("run", t.run(10), TRAP);
    Due.is("trapAt()", t.trapAt(), 2);
    Due.is("the store before the trap is kept", t.cell(0, 1), 5);
    Due.is("the trapping store stores nothing", t.cell(0, 2), 0);
    Due.is("the store after the trap is not made", t.cell(0, 0), 0);
    t.clearProgram();
    t.emit(4, 0, 0, 5);
    t.emit(7, 1, 0, -1);
    Due.is("run", t.run(10), TRAP);
    Due.is("a store below array 1 does not reach array 0", t.cell(0, 15), 0);
    Due.is("acc() at the trap", t.acc(), 5);
  }

  private static void trapCostsFuel() {
    IndexTypeChecker t = fresh();
    t.emit(4, 0, 0, 5);
    t.emit(5, 0, 0, 0);
    Due.is("run(1) stops before the trap", t.run(1), OUT);
    Due.is("trapAt()", t.trapAt(), -1);
    Due.is("run(2) reaches the trap", t.run(2), TRAP);
    Due.is("trapAt()", t.trapAt(), 1);
    Due.is("run(0)", t.run(0), OUT);
    Due.is("trapAt() after a run without trap", t.trapAt(), -1);
  }

  private static void loopsCount() {
    for (int n = -2; n <= 16; n++) {
      IndexTypeChecker t = fresh();
      t.declare(0, 0, 16);
      t.setParam(1, n + 7);
      t.emit(4, 0, 0, 1);
      t.emit(1, 6, 1, -7);
      t.emit(7, 0, 6, 0);
      t.emit(6, 0, 6, 0);
      end(t);
      Due.is("run", t.run(1000), DONE);
      int times = n < 0 ? 0 : n;
      Due.is("acc() doubled " + times + " times", t.acc(), 1 << times);
      for (int i = 0; i < 16; i++) {
        Due.is("cell(0, " + i + ")", t.cell(0, i), i < times ? 1 << i : 0);
      }
    }
  }

  private static void loopsOverNothing() {
    int[] ends = {-1000, -1, 0};
    for (int last : ends) {
      IndexTypeChecker t = fresh();
      t.emit(1, 4, 0, last);
      t.emit(1, 5, 4, 1);
      t.emit(5, 0, 4, 0);
      end(t);
      t.emit(4, 0, 0, 1);
      end(t);
      t.emit(4, 0, 0, 2);
      Due.is("a loop over nothing costs 1", t.run(2), DONE);
      Due.is("acc()", t.acc(), 2);
    }
  }

  /** The inner loop's bound is the outer variable, so it is another at every entry. */
  private static void loopBoundIsRememberedAtEntry() {
    IndexTypeChecker t = fresh();
    t.declare(0, 0, 1);
    t.setCell(0, 0, 1);
    t.emit(1, 4, 0, 5);
    t.emit(1, 5, 4, 0);
    t.emit(6, 0, 0, 0);
    end(t);
    end(t);
    Due.is("run", t.run(1000), DONE);
    Due.is("acc() of 0 + 1 + 2 + 3 + 4", t.acc(), 10);
    // 1 LOOP, five times LOOP and END, and ten times ADD and END
    Due.is("run(31)", t.run(31), DONE);
    Due.is("run(30)", t.run(30), OUT);
  }

  private static void nestedLoops() {
    IndexTypeChecker t = fresh();
    t.declare(0, 0, 1);
    t.setCell(0, 0, 1);
    for (int v = 4; v < 8; v++) {
      t.emit(1, v, 0, v - 2);
    }
    t.emit(6, 0, 0, 0);
    for (int v = 4; v < 8; v++) {
      end(t);
    }
    Due.is("run", t.run(10000), DONE);
    Due.is("acc() of 2 * 3 * 4 * 5", t.acc(), 120);
  }

  private static void siblingLoopsShareAVariable() {
    IndexTypeChecker t = fresh();
    t.declare(0, 0, 8);
    t.emit(4, 0, 0, 1);
    t.emit(1, 4, 0, 2);
    t.emit(1, 5, 0, 3);
    t.emit(7, 0, 5, 0);
    end(t);
    t.emit(1, 5, 4, 4);
    t.emit(7, 0, 5, 1);
    end(t);
    end(t);
    t.emit(1, 4, 0, 8);
    t.emit(6, 0, 4, 0);
    end(t);
    Due.is("run", t.run(1000), DONE);
    // The second inner loop ends at 3, then at 4: cells 0..5 are stored.
    Due.is("acc() of SET 1 and six cells", t.acc(), 7);
    Due.is("cell(0, 5)", t.cell(0, 5), 1);
    Due.is("cell(0, 6)", t.cell(0, 6), 0);
  }

  private static void ifTakesTheEdge() {
    for (int difference = -3; difference <= 3; difference++) {
      for (int c = -3; c <= 3; c++) {
        IndexTypeChecker t = fresh();
        t.setParam(1, difference + 4);
        t.setParam(2, 4);
        t.emit(2, 1, 2, c);
        t.emit(4, 0, 0, 1);
        end(t);
        Due.is("run", t.run(10), DONE);
        Due.is("acc() of IF " + difference + " <= " + c, t.acc(), difference <= c ? 1 : 0);
      }
    }
    IndexTypeChecker t = fresh();
    t.declare(0, 0, 9);
    t.setCell(0, 0, 1);
    t.emit(1, 4, 0, 5);
    t.emit(1, 5, 0, 5);
    t.emit(2, 4, 5, -2);
    t.emit(6, 0, 0, 0);
    end(t);
    end(t);
    end(t);
    Due.is("run", t.run(1000), DONE);
    Due.is("acc() counts the pairs with i <= j - 2", t.acc(), 6);
  }

  private static void skippedIfJumpsPastItsOwnEnd() {
    IndexTypeChecker t = fresh();
    t.declare(0, 0, 1);
    t.emit(2, 0, 0, 0);
    t.emit(2, 0, 0, -1);
    t.emit(2, 0, 0, 0);
    t.emit(5, 0, 0, 5);
    end(t);
    t.emit(5, 0, 0, 5);
    end(t);
    t.emit(4, 0, 0, 3);
    end(t);
    Due.is("run", t.run(4), DONE);
    Due.is("acc()", t.acc(), 3);
  }

  private static void accStartsAtZero() {
    IndexTypeChecker t = fresh();
    t.declare(0, 0, 1);
    t.setCell(0, 0, 5);
    t.emit(6, 0, 0, 0);
    for (int n = 0; n < 3; n++) {
      Due.is("run", t.run(10), DONE);
      Due.is("acc() is not carried over", t.acc(), 5);
    }
  }

  private static void runsStartAnew() {
    IndexTypeChecker t = fresh();
    t.declare(0, 0, 4);
    t.emit(4, 0, 0, 1);
    t.emit(1, 4, 0, 4);
    t.emit(7, 0, 4, 0);
    end(t);
    Due.is("run(7) stops inside the loop", t.run(7), OUT);
    Due.is("cell(0, 2) after run(7)", t.cell(0, 2), 1);
    Due.is("cell(0, 3) after run(7)", t.cell(0, 3), 0);
    t.setCell(0, 0, 0);
    Due.is("run(3) starts at the start", t.run(3), OUT);
    Due.is("cell(0, 0) after run(3)", t.cell(0, 0), 1);
    Due.is("cell(0, 3) after run(3)", t.cell(0, 3), 0);
    Due.is("check() after stopped runs", t.check(), IndexTypeChecker.ACCEPTED);
    Due.is("run to the end", t.run(10), DONE);
    Due.no("the loop variable is not bound between runs", t.emit(5, 0, 4, 0));
  }

  private static void lastRunCounts() {
    IndexTypeChecker t = fresh();
    t.emit(4, 0, 0, 6);
    t.emit(5, 0, 0, 0);
    Due.is("acc() before any run", t.acc(), 0);
    Due.is("trapAt() before any run", t.trapAt(), -1);
    t.run(10);
    Due.is("acc()", t.acc(), 6);
    Due.is("trapAt()", t.trapAt(), 1);
    t.clearProgram();
    t.clearPre();
    t.declare(0, 0, 3);
    t.addPre(1, 1, 0);
    t.setParam(1, 3);
    t.setCell(0, 0, 77);
    t.emit(4, 0, 0, 8);
    t.check();
    t.consistent();
    t.implies(1, 1, 0);
    t.accessStatus(0);
    Due.is("acc() after all other methods", t.acc(), 6);
    Due.is("trapAt() after all other methods", t.trapAt(), 1);
    t.run(10);
    Due.is("acc() after the next run", t.acc(), 8);
    Due.is("trapAt() after the next run", t.trapAt(), -1);
    t.clearProgram();
    t.run(10);
    Due.is("acc() after an empty run", t.acc(), 0);
  }
}
