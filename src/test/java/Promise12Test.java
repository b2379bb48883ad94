/** Promise 12: running the program. */
public final class Promise12Test {
  private static final int LOW = Edges.LOW;
  private static final int HIGH = Edges.HIGH;
  private static final int DONE = IndexTypeChecker.RUN_DONE;
  private static final int TRAP = IndexTypeChecker.RUN_TRAP;
  private static final int OUT = IndexTypeChecker.RUN_OUT_OF_FUEL;
  private static final int REFUSED = IndexTypeChecker.RUN_REFUSED;
  private static final int[] FUELS = {LOW, -1, 0, 1, 9999, 10000, 10001, HIGH};

  public static void main(String[] args) {
    refusedWithABlockOpen();
    refusedByAPrecondition();
    everyPreconditionIsTested();
    refusedByALength();
    everyLengthIsTested();
    refusedRunChangesNothing();
    emptyProgramIsDoneForAnyFuel();
    fuelBelowZeroIsZero();
    fuelAboveTheGreatestIsTheGreatest();
    doneComesBeforeOutOfFuel();
    everyInstructionCostsOne();
    trapCostsOne();
    loopOverNothing();
    loopOnce();
    loopBoundIsRememberedAtEntry();
    nestedLoops();
    siblingLoopsShareAVariable();
    ifAtTheEdge();
    skippedIfGoesPastItsOwnEnd();
    skippedBlockOfADeepNest();
    setAtTheGreatestConstants();
    accessesActOnTheirCell();
    addWrapsAround();
    trapsAtTheEdges();
    trappingAccessDoesNothing();
    storesBeforeTheStopAreKept();
    accStartsAtZero();
    runStartsAtTheStart();
    noLoopVariableIsLeftBound();
    trapAtIsSetByEachRun();
    runKeepsTheRest();
    Due.finish();
  }

  private static void refused(String what, IndexTypeChecker t) {
    for (int fuel : FUELS) {
      Due.is("run(" + fuel + ") " + what, t.run(fuel), REFUSED);
    }
  }

  /** "a block is open". */
  private static void refusedWithABlockOpen() {
    for (int blocks = 1; blocks <= 8; blocks++) {
      IndexTypeChecker t = States.fresh();
      Due.is("run before any block", t.run(9), DONE);
      for (int n = 0; n < blocks; n++) {
        boolean opened = n < 4 ? Emit.loop(t, 4 + n, 0, 0) : Emit.when(t, 0, 0, -1);
        Due.yes("a block opens", opened);
      }
      for (int n = 0; n < blocks; n++) {
        refused("with " + (blocks - n) + " blocks open", t);
        Emit.end(t);
      }
      Due.is("run with all blocks closed", t.run(9), DONE);
    }
    IndexTypeChecker t = States.fresh();
    Emit.when(t, 0, 0, -1);
    refused("with an open IF that is not taken", t);
    t.clearProgram();
    Due.is("run once it is cleared", t.run(9), DONE);
  }

  /** "some stored precondition is false for the current parameter values (variable 0 being 0)". */
  private static void refusedByAPrecondition() {
    for (int x = 0; x < 4; x++) {
      for (int y = 0; y < 4; y++) {
        for (int c : new int[] {-1000, -999, -3, -1, 0, 1, 3, 999, 1000}) {
          for (int difference = c - 1; difference <= c + 1; difference++) {
            preconditionAt(x, y, c, difference);
          }
        }
      }
    }
  }

  private static void preconditionAt(int x, int y, int c, int difference) {
    int low = difference / 2;
    IndexTypeChecker t = States.fresh();
    t.addPre(x, y, c);
    boolean set = x != y && setDifference(t, x, y, difference, low);
    if (set || x == y) {
      boolean holds = (x == y ? 0 : difference) <= c;
      Due.is("run with " + x + " - " + y + " = " + difference + ", at most " + c, t.run(9), holds ? DONE : REFUSED);
    }
  }

  private static boolean setDifference(IndexTypeChecker t, int x, int y, int difference, int low) {
    if (x == 0) {
      return t.setParam(y, -difference);
    }
    if (y == 0) {
      return t.setParam(x, difference);
    }
    return t.setParam(x, difference - low) && t.setParam(y, -low);
  }

  private static void everyPreconditionIsTested() {
    for (int place = 0; place < 16; place++) {
      IndexTypeChecker t = States.fresh();
      for (int n = 0; n < 16; n++) {
        t.addPre(2, 0, n == place ? 4 : 5);
      }
      t.setParam(2, 4);
      Due.is("run where all hold", t.run(9), DONE);
      t.setParam(2, 5);
      Due.is("run where number " + place + " fails", t.run(9), REFUSED);
      t.clearPre();
      Due.is("run once they are cleared", t.run(9), DONE);
    }
    IndexTypeChecker t = States.fresh();
    t.setParam(1, 1000);
    t.setParam(2, -1000);
    t.addPre(1, 2, 1000);
    Due.is("run with a difference of 2000", t.run(9), REFUSED);
    t.setParam(2, 0);
    Due.is("run with a difference of 1000", t.run(9), DONE);
  }

  /** "some array's length val(lv) + lc ... is below 0 or above 16". */
  private static void refusedByALength() {
    for (int a = 0; a < 4; a++) {
      for (int length : new int[] {-1000, -2, -1, 0, 1, 15, 16, 17, 18, 1000}) {
        boolean fits = length >= 0 && length <= 16;
        IndexTypeChecker t = States.fresh();
        t.declare(a, 0, length);
        Due.is("run with length " + length + " of array " + a, t.run(9), fits ? DONE : REFUSED);
        for (int p = 1; p <= 3; p++) {
          IndexTypeChecker u = States.fresh();
          int part = length < 0 ? -5 : 5;
          u.declare(a, p, length - part);
          u.setParam(p, part);
          Due.is("run with length " + length + " under parameter " + p, u.run(9), fits ? DONE : REFUSED);
        }
      }
    }
    IndexTypeChecker t = States.fresh();
    t.declare(0, 1, 1000);
    t.setParam(1, -1000);
    Due.is("run with length -1000 + 1000", t.run(9), DONE);
    t.setParam(1, 1000);
    Due.is("run with length 1000 + 1000", t.run(9), REFUSED);
    t.declare(0, 1, -1000);
    Due.is("run with length 1000 - 1000", t.run(9), DONE);
    t.setParam(1, -1000);
    Due.is("run with length -1000 - 1000", t.run(9), REFUSED);
  }

  private static void everyLengthIsTested() {
    for (int a = 0; a < 4; a++) {
      for (int bad : new int[] {-1, 17}) {
        IndexTypeChecker t = States.fresh();
        for (int b = 0; b < 4; b++) {
          t.declare(b, 0, b == a ? bad : 16);
        }
        Emit.load(t, (a + 1) % 4, 0, 0);
        refused("with an array that is not used of length " + bad, t);
      }
    }
  }

  /** "It is refused, answering RUN_REFUSED and changing nothing (cells, acc() and trapAt() included)". */
  private static void refusedRunChangesNothing() {
    for (int fuel : FUELS) {
      Twins.unchanged("a run refused for a block", States::open, t -> t.run(fuel));
      Twins.unchanged("a run refused for a block", States::full, t -> t.run(fuel));
      Twins.unchanged("a run refused for a precondition", Twins.after(States::closed, t -> t.setParam(1, 5)), t -> t.run(fuel));
      Twins.unchanged("a run refused for a precondition", States::contrary, t -> t.run(fuel));
      Twins.unchanged("a run refused for a length", Twins.after(States::closed, t -> t.setParam(3, 8)), t -> t.run(fuel));
      Twins.unchanged("a run refused for a length", Twins.after(States::closed, t -> t.setParam(3, -10)), t -> t.run(fuel));
    }
    refused("with a block open", States.open());
    refused("with a precondition that fails", Twins.after(States::closed, t -> t.setParam(1, 5)).get());
    refused("with a length of 17", Twins.after(States::closed, t -> t.setParam(3, 8)).get());
    refused("with a length of -1", Twins.after(States::closed, t -> t.setParam(3, -10)).get());
    Due.is("run with a length of 16", Twins.after(States::closed, t -> t.setParam(3, 7)).get().run(99), TRAP);
    Due.is("run with a length of 0", Twins.after(States::closed, t -> t.setParam(3, -9)).get().run(99), TRAP);
    Due.is("run with a precondition that just holds", Twins.after(States::closed, t -> t.setParam(1, 4)).get().run(99), TRAP);
  }

  /** "with an empty program the answer is RUN_DONE for any fuel". */
  private static void emptyProgramIsDoneForAnyFuel() {
    for (int fuel : FUELS) {
      IndexTypeChecker t = States.trapped();
      Due.is("run(" + fuel + ") of an empty program", t.run(fuel), DONE);
      Due.is("acc() after it", t.acc(), 0);
      Due.is("trapAt() after it", t.trapAt(), -1);
      Due.is("run(" + fuel + ") on fresh", States.fresh().run(fuel), DONE);
    }
  }

  /** "fuel is clamped into [0, 10000]"; "with ... fuel at most 0, the answer is RUN_OUT_OF_FUEL with acc 0." */
  private static void fuelBelowZeroIsZero() {
    for (int fuel : new int[] {LOW, LOW + 1, -10000, -2, -1, 0}) {
      IndexTypeChecker t = States.trapped();
      t.setCell(2, 0, 6);
      Emit.load(t, 2, 0, 0);
      Emit.store(t, 2, 0, 1);
      Due.is("run(" + fuel + ")", t.run(fuel), OUT);
      Due.is("acc() after no step", t.acc(), 0);
      Due.is("trapAt() after no step", t.trapAt(), -1);
      Due.is("cell(2, 1) after no step", t.cell(2, 1), 202);
      Due.is("run(1)", t.run(1), OUT);
      Due.is("acc() after one step", t.acc(), 6);
      Due.is("run(2)", t.run(2), DONE);
    }
    IndexTypeChecker t = States.fresh();
    Emit.load(t, 0, 0, 0);
    Due.is("run(0) of a program that would trap", t.run(0), OUT);
    Due.is("run(-1) of a program that would trap", t.run(-1), OUT);
    Due.is("run(1) of a program that would trap", t.run(1), TRAP);
  }

  /** Costs 1 + 51 * (2 + 2 * 97) = 9997 steps and one more for each SET at its end. */
  private static IndexTypeChecker longProgram(int setsAtEnd) {
    IndexTypeChecker t = States.fresh();
    Emit.loop(t, 4, 0, 51);
    Emit.loop(t, 5, 0, 97);
    Emit.set(t, -3);
    Emit.end(t);
    Emit.end(t);
    for (int n = 1; n <= setsAtEnd; n++) {
      Emit.set(t, n);
    }
    return t;
  }

  /** "fuel is clamped into [0, 10000]". */
  private static void fuelAboveTheGreatestIsTheGreatest() {
    for (int fuel : new int[] {10000, 10001, 20000, 65536, HIGH - 1, HIGH}) {
      int[][] cases = {{2, DONE, 2}, {3, DONE, 3}, {4, OUT, 3}};
      for (int[] one : cases) {
        IndexTypeChecker t = longProgram(one[0]);
        Due.is("run(" + fuel + ") of " + (9997 + one[0]) + " steps", t.run(fuel), one[1]);
        Due.is("acc() after it", t.acc(), one[2]);
      }
    }
    int[][] below = {{9998, OUT, 1}, {9999, OUT, 2}, {10000, DONE, 3}};
    for (int[] one : below) {
      IndexTypeChecker t = longProgram(3);
      Due.is("run(" + one[0] + ") of 10000 steps", t.run(one[0]), one[1]);
      Due.is("acc() after it", t.acc(), one[2]);
    }
    IndexTypeChecker t = States.fresh();
    Emit.loop(t, 4, 0, 1000);
    Emit.loop(t, 5, 4, 1000);
    Emit.end(t);
    Emit.end(t);
    Due.is("run of a program far too long", t.run(HIGH), OUT);
  }

  /** "if pc == size(), stop with RUN_DONE; if executed == fuel, stop with RUN_OUT_OF_FUEL", in this order. */
  private static void doneComesBeforeOutOfFuel() {
    for (int count = 1; count <= 32; count++) {
      IndexTypeChecker t = States.fresh();
      for (int n = 1; n <= count; n++) {
        Emit.set(t, n);
      }
      for (int fuel = count - 1; fuel <= count + 1; fuel++) {
        Due.is("run(" + fuel + ") of " + count + " steps", t.run(fuel), fuel < count ? OUT : DONE);
        Due.is("acc() after it", t.acc(), Math.min(fuel, count));
      }
    }
  }

  /** "Every executed instruction, including LOOP, IF, END and SET ... counts one unit of fuel." */
  private static void everyInstructionCostsOne() {
    IndexTypeChecker t = States.fresh();
    t.declare(0, 0, 2);
    t.setCell(0, 1, 20);
    Emit.set(t, 1);
    Emit.loop(t, 4, 0, 2);
    Emit.add(t, 0, 4, 0);
    Emit.when(t, 4, 0, 0);
    Emit.load(t, 0, 4, 0);
    Emit.end(t);
    Emit.end(t);
    Emit.when(t, 0, 0, -1);
    Emit.set(t, 99);
    Emit.end(t);
    Emit.store(t, 0, 0, 0);
    Emit.set(t, 7);
    // SET, LOOP, ADD, IF, LOAD, END, END, ADD, IF (skips), END, IF (skips), STORE, SET
    int[] accAfter = {0, 1, 1, 11, 11, 10, 10, 10, 30, 30, 30, 30, 30, 7, 7};
    for (int fuel = 0; fuel < accAfter.length; fuel++) {
      t.setCell(0, 0, 10);
      Due.is("run(" + fuel + ")", t.run(fuel), fuel < 13 ? OUT : DONE);
      Due.is("acc() after run(" + fuel + ")", t.acc(), accAfter[fuel]);
      Due.is("cell(0, 0) after run(" + fuel + ")", t.cell(0, 0), fuel < 12 ? 10 : 30);
      Due.is("trapAt() after run(" + fuel + ")", t.trapAt(), -1);
    }
  }

  /** "and including an access that traps, counts one unit of fuel". */
  private static void trapCostsOne() {
    for (int op = 5; op <= 7; op++) {
      IndexTypeChecker t = States.fresh();
      Emit.set(t, 5);
      t.emit(op, 0, 0, 0);
      Due.is("run(1) stops before the trap", t.run(1), OUT);
      Due.is("trapAt()", t.trapAt(), -1);
      Due.is("run(2) reaches the trap", t.run(2), TRAP);
      Due.is("trapAt()", t.trapAt(), 1);
      Due.is("run(3)", t.run(3), TRAP);
    }
  }

  /** "If hi <= 0 then pc = e + 1". */
  private static void loopOverNothing() {
    for (int hi : new int[] {-2000, -1000, -2, -1, 0}) {
      IndexTypeChecker t = States.fresh();
      t.setParam(1, hi < -1000 ? -1000 : 0);
      Emit.loop(t, 4, 1, hi < -1000 ? hi + 1000 : hi);
      Emit.loop(t, 5, 4, 1);
      Emit.load(t, 0, 4, 0);
      Emit.end(t);
      Emit.set(t, 1);
      Emit.end(t);
      Emit.set(t, 2);
      Due.is("a LOOP to " + hi + " costs 1: run(1)", t.run(1), OUT);
      Due.is("a LOOP to " + hi + " costs 1: run(2)", t.run(2), DONE);
      Due.is("acc()", t.acc(), 2);
    }
  }

  /** "else val(i) = 0 and pc = pc + 1": a loop to 1, and to 2. */
  private static void loopOnce() {
    for (int hi = 1; hi <= 2; hi++) {
      IndexTypeChecker t = States.fresh();
      t.declare(0, 0, 3);
      Emit.set(t, 4);
      Emit.loop(t, 7, 0, hi);
      Emit.store(t, 0, 7, 0);
      Emit.end(t);
      Due.is("run(" + (2 + 2 * hi) + ")", t.run(2 + 2 * hi), DONE);
      for (int i = 0; i < 3; i++) {
        Due.is("cell(0, " + i + ") after a loop to " + hi, t.cell(0, i), i < hi ? 4 : 0);
      }
      Due.is("run(" + (1 + 2 * hi) + ")", t.run(1 + 2 * hi), OUT);
    }
  }

  /** "hi = val(v) + c, remembered for this entry of the loop": here it is another at each entry. */
  private static void loopBoundIsRememberedAtEntry() {
    IndexTypeChecker t = States.fresh();
    t.declare(0, 0, 1);
    t.setCell(0, 0, 1);
    Emit.loop(t, 4, 0, 5);
    Emit.loop(t, 5, 4, 0);
    Emit.add(t, 0, 0, 0);
    Emit.end(t);
    Emit.end(t);
    Due.is("run", t.run(1000), DONE);
    Due.is("acc() of 0 + 1 + 2 + 3 + 4", t.acc(), 10);
    // 1 LOOP, five times LOOP and END, and ten times ADD and END
    Due.is("run(31)", t.run(31), DONE);
    Due.is("run(30)", t.run(30), OUT);
  }

  private static void nestedLoops() {
    IndexTypeChecker t = States.fresh();
    t.declare(0, 0, 1);
    t.setCell(0, 0, 1);
    for (int v = 4; v < 8; v++) {
      Emit.loop(t, v, 0, v - 2);
    }
    Emit.add(t, 0, 0, 0);
    for (int v = 4; v < 8; v++) {
      Emit.end(t);
    }
    Due.is("run", t.run(10000), DONE);
    Due.is("acc() of 2 * 3 * 4 * 5", t.acc(), 120);
  }

  private static void siblingLoopsShareAVariable() {
    IndexTypeChecker t = States.fresh();
    t.declare(0, 0, 8);
    Emit.set(t, 1);
    Emit.loop(t, 4, 0, 2);
    Emit.loop(t, 5, 0, 3);
    Emit.store(t, 0, 5, 0);
    Emit.end(t);
    Emit.loop(t, 5, 4, 4);
    Emit.store(t, 0, 5, 1);
    Emit.end(t);
    Emit.end(t);
    Emit.loop(t, 4, 0, 8);
    Emit.add(t, 0, 4, 0);
    Emit.end(t);
    Due.is("run", t.run(1000), DONE);
    // The second inner loop ends at 4, then at 5: cells 0..5 are stored.
    Due.is("acc() of SET 1 and six cells", t.acc(), 7);
    Due.is("cell(0, 5)", t.cell(0, 5), 1);
    Due.is("cell(0, 6)", t.cell(0, 6), 0);
  }

  /** "IF x y c: if val(x) - val(y) <= c then pc = pc + 1, else pc = e + 1." */
  private static void ifAtTheEdge() {
    for (int c : Edges.constants()) {
      for (int difference = c - 1; difference <= c + 1; difference++) {
        IndexTypeChecker t = States.fresh();
        int low = difference / 2;
        t.setParam(1, difference - low);
        t.setParam(2, -low);
        Emit.when(t, 1, 2, c);
        Emit.set(t, 1);
        Emit.end(t);
        boolean holds = difference <= c;
        Due.is("run of IF " + difference + " <= " + c, t.run(10), DONE);
        Due.is("acc()", t.acc(), holds ? 1 : 0);
        Due.is("run(1), which is all that a skipped IF costs", t.run(1), holds ? OUT : DONE);
        Due.is("run(2)", t.run(2), holds ? OUT : DONE);
        Due.is("run(3)", t.run(3), DONE);
      }
    }
    IndexTypeChecker t = States.fresh();
    t.declare(0, 0, 1);
    t.setCell(0, 0, 1);
    Emit.loop(t, 4, 0, 5);
    Emit.loop(t, 5, 0, 5);
    Emit.when(t, 4, 5, -2);
    Emit.add(t, 0, 0, 0);
    Emit.end(t);
    Emit.end(t);
    Emit.end(t);
    Due.is("run", t.run(1000), DONE);
    Due.is("acc() counts the pairs with i <= j - 2", t.acc(), 6);
  }

  private static void skippedIfGoesPastItsOwnEnd() {
    IndexTypeChecker t = States.fresh();
    Emit.when(t, 0, 0, 0);
    Emit.when(t, 0, 0, -1);
    Emit.when(t, 0, 0, 0);
    Emit.load(t, 0, 0, 5);
    Emit.end(t);
    Emit.load(t, 0, 0, 5);
    Emit.end(t);
    Emit.set(t, 3);
    Emit.end(t);
    Due.is("run(4)", t.run(4), DONE);
    Due.is("acc()", t.acc(), 3);
    Due.is("run(3)", t.run(3), OUT);
  }

  /** Fifteen blocks, one in the other, and the one at the given depth is not entered. */
  private static void skippedBlockOfADeepNest() {
    for (int op = 1; op <= 2; op++) {
      for (int depth = 0; depth <= 15; depth++) {
        IndexTypeChecker t = States.fresh();
        for (int n = 0; n < 15; n++) {
          boolean loops = n == depth && op == 1;
          boolean opened = loops ? Emit.loop(t, 6, 0, 0) : Emit.when(t, 0, 0, n == depth ? -1 : 0);
          Due.yes("block " + n + " opens", opened);
        }
        Emit.set(t, 9);
        for (int n = 0; n < 15; n++) {
          Emit.end(t);
        }
        // Each block around the skipped one costs its opener and its END, the skipped one its opener.
        int cost = depth < 15 ? 2 * depth + 1 : 31;
        Due.is("run(" + cost + ") with block " + depth + " skipped", t.run(cost), DONE);
        Due.is("acc()", t.acc(), depth < 15 ? 0 : 9);
        Due.is("run(" + (cost - 1) + ")", t.run(cost - 1), OUT);
      }
    }
  }

  /** "SET c: acc = c". */
  private static void setAtTheGreatestConstants() {
    for (int c : Edges.constants()) {
      IndexTypeChecker t = States.fresh();
      Emit.set(t, 5);
      Emit.set(t, c);
      t.run(9);
      Due.is("acc() after SET " + c, t.acc(), c);
    }
  }

  /** "LOAD sets acc to the cell; ADD sets acc to acc plus the cell ...; STORE sets the cell to acc". */
  private static void accessesActOnTheirCell() {
    for (int a = 0; a < 4; a++) {
      for (int s : new int[] {0, 1, 14, 15}) {
        for (int op = 5; op <= 7; op++) {
          oneAccess(op, a, s);
        }
      }
    }
  }

  private static void oneAccess(int op, int a, int s) {
    IndexTypeChecker t = States.fresh();
    for (int b = 0; b < 4; b++) {
      t.declare(b, 0, 16);
      for (int i = 0; i < 16; i++) {
        t.setCell(b, i, 1000 * b + i + 1);
      }
    }
    t.setParam(2, 15);
    Emit.set(t, -7);
    t.emit(op, a, 2, s - 15);
    int former = 1000 * a + s + 1;
    Due.is("run", t.run(10), DONE);
    Due.is("acc() after op " + op, t.acc(), op == 5 ? former : op == 6 ? former - 7 : -7);
    for (int b = 0; b < 4; b++) {
      for (int i = 0; i < 16; i++) {
        int due = op == 7 && b == a && i == s ? -7 : 1000 * b + i + 1;
        Due.is("cell(" + b + ", " + i + ") after op " + op, t.cell(b, i), due);
      }
    }
  }

  /** "with int wrap-around as Java does, e.g. 2147483647 + 1 gives -2147483648". */
  private static void addWrapsAround() {
    IndexTypeChecker t = States.fresh();
    t.declare(0, 0, 2);
    Emit.load(t, 0, 0, 0);
    Emit.add(t, 0, 0, 1);
    int[][] sums = {
      {2147483646, 1, 2147483647}, {2147483647, 1, -2147483648}, {2147483647, 2, -2147483647},
      {-2147483647, -1, -2147483648}, {-2147483648, -1, 2147483647}, {-2147483648, -2, 2147483646},
      {HIGH, HIGH, -2}, {LOW, LOW, 0}, {HIGH, LOW, -1}, {LOW, HIGH, -1}, {HIGH, 0, HIGH}, {LOW, 0, LOW},
    };
    for (int[] sum : sums) {
      t.setCell(0, 0, sum[0]);
      t.setCell(0, 1, sum[1]);
      Due.is("run", t.run(10), DONE);
      Due.is("acc() of " + sum[0] + " + " + sum[1], t.acc(), sum[2]);
    }
    // Doubling 1 thirty-two times passes through -2147483648 to 0.
    IndexTypeChecker u = States.fresh();
    u.declare(0, 0, 1);
    Emit.set(u, 1);
    Emit.loop(u, 4, 1, 0);
    Emit.store(u, 0, 0, 0);
    Emit.add(u, 0, 0, 0);
    Emit.end(u);
    int[][] doubled = {{30, 1073741824}, {31, -2147483648}, {32, 0}};
    for (int[] one : doubled) {
      u.setParam(1, one[0]);
      Due.is("run", u.run(1000), DONE);
      Due.is("acc() of 1 doubled " + one[0] + " times", u.acc(), one[1]);
    }
  }

  /** "If s < 0 or s >= L, the instruction does nothing and the run stops with RUN_TRAP." */
  private static void trapsAtTheEdges() {
    for (int op = 5; op <= 7; op++) {
      for (int length = 0; length <= 16; length++) {
        for (int s = -2; s <= 17; s++) {
          IndexTypeChecker t = States.fresh();
          t.declare(1, 3, 3);
          t.setParam(3, length - 3);
          Emit.set(t, 8);
          t.emit(op, 1, 3, s - (length - 3));
          boolean inside = s >= 0 && s < length;
          Due.is("run with subscript " + s + " of " + length, t.run(10), inside ? DONE : TRAP);
          Due.is("trapAt()", t.trapAt(), inside ? -1 : 1);
          Due.is("acc()", t.acc(), inside && op == 5 ? 0 : 8);
        }
      }
      for (int far : new int[] {-1000, 1000}) {
        IndexTypeChecker t = States.fresh();
        t.declare(1, 0, 16);
        t.setParam(2, far);
        t.emit(op, 1, 2, far);
        Due.is("run with subscript " + 2 * far, t.run(10), TRAP);
        Due.is("trapAt()", t.trapAt(), 0);
      }
    }
  }

  /** "a trapping STORE stores nothing"; nor does a trapping LOAD or ADD touch acc. */
  private static void trappingAccessDoesNothing() {
    for (int op = 5; op <= 7; op++) {
      for (int a = 0; a < 4; a++) {
        for (int s : new int[] {-1, 5, 6, 15, 16}) {
          IndexTypeChecker t = States.trapped();
          t.declare(a, 0, 5);
          t.addPre(3, 3, 0);
          Emit.set(t, 77);
          t.emit(op, a, 0, s);
          Emit.set(t, 78);
          Due.is("run with subscript " + s + " of 5", t.run(10), TRAP);
          Due.is("acc() at the trap", t.acc(), 77);
          Due.is("trapAt()", t.trapAt(), 1);
          for (int b = 0; b < 4; b++) {
            for (int i = 0; i < 16; i++) {
              int due = b == 0 && i == 2 ? 41 : 100 * b + i + 1;
              Due.is("cell(" + b + ", " + i + ") after the trap", t.cell(b, i), due);
            }
          }
        }
      }
    }
  }

  /** "every cell keeps the stores made before the stop"; "Cells not stored keep their former values." */
  private static void storesBeforeTheStopAreKept() {
    for (int fuel = 0; fuel <= 10; fuel++) {
      IndexTypeChecker t = States.fresh();
      t.declare(0, 0, 4);
      for (int i = 0; i < 16; i++) {
        t.setCell(0, i, 50 + i);
      }
      Emit.set(t, 6);
      for (int n = 0; n < 6; n++) {
        Emit.store(t, 0, 0, n);
      }
      Due.is("run(" + fuel + ")", t.run(fuel), fuel < 6 ? OUT : TRAP);
      Due.is("trapAt()", t.trapAt(), fuel < 6 ? -1 : 5);
      for (int i = 0; i < 16; i++) {
        boolean stored = i < 4 && i <= fuel - 2;
        Due.is("cell(0, " + i + ") after run(" + fuel + ")", t.cell(0, i), stored ? 6 : 50 + i);
      }
    }
  }

  /** "acc = 0". */
  private static void accStartsAtZero() {
    IndexTypeChecker t = States.fresh();
    t.declare(0, 0, 1);
    t.setCell(0, 0, 5);
    Emit.add(t, 0, 0, 0);
    for (int n = 0; n < 3; n++) {
      Due.is("run", t.run(10), DONE);
      Due.is("acc() is not carried over", t.acc(), 5);
    }
    t.clearProgram();
    Emit.store(t, 0, 0, 0);
    Due.is("run", t.run(10), DONE);
    Due.is("cell(0, 0) after STORE of the first acc", t.cell(0, 0), 0);
  }

  /** "pc = 0": also after a run that stopped midway. */
  private static void runStartsAtTheStart() {
    IndexTypeChecker t = States.fresh();
    t.declare(0, 0, 4);
    Emit.set(t, 1);
    Emit.loop(t, 4, 0, 4);
    Emit.store(t, 0, 4, 0);
    Emit.end(t);
    Due.is("run(7) stops inside the loop", t.run(7), OUT);
    Due.is("cell(0, 2) after run(7)", t.cell(0, 2), 1);
    Due.is("cell(0, 3) after run(7)", t.cell(0, 3), 0);
    t.setCell(0, 0, 0);
    Due.is("run(3) starts at the start", t.run(3), OUT);
    Due.is("cell(0, 0) after run(3)", t.cell(0, 0), 1);
    Due.is("cell(0, 3) after run(3)", t.cell(0, 3), 0);
    Due.is("run(9)", t.run(9), OUT);
    Due.is("run(10)", t.run(10), DONE);
  }

  /** "no loop variable is bound", before a run and after it. */
  private static void noLoopVariableIsLeftBound() {
    IndexTypeChecker t = States.fresh();
    t.declare(0, 0, 4);
    Emit.loop(t, 4, 0, 4);
    Emit.load(t, 0, 4, 0);
    Emit.end(t);
    for (int fuel = 0; fuel <= 10; fuel++) {
      t.run(fuel);
      Due.no("LOAD with 4 after run(" + fuel + ")", Emit.load(t, 0, 4, 0));
      Due.is("check() after run(" + fuel + ")", t.check(), IndexTypeChecker.ACCEPTED);
    }
    Due.yes("LOOP 4 after a run that stopped in LOOP 4", Emit.loop(t, 4, 0, 1));
  }

  /** "trapAt() is the index of the trapping instruction if the answer is RUN_TRAP, else -1". */
  private static void trapAtIsSetByEachRun() {
    for (int place = 0; place < 32; place++) {
      IndexTypeChecker t = States.fresh();
      for (int k = 0; k < 32; k++) {
        boolean emitted = k == place ? Emit.load(t, 0, 0, 0) : Emit.set(t, 100 + k);
        Due.yes("emit", emitted);
      }
      Due.is("run", t.run(100), TRAP);
      Due.is("trapAt()", t.trapAt(), place);
      Due.is("acc()", t.acc(), place == 0 ? 0 : 99 + place);
      Due.is("run(" + place + ")", t.run(place), OUT);
      Due.is("trapAt() after a run that stopped before it", t.trapAt(), -1);
      t.run(100);
      t.declare(0, 0, 1);
      Due.is("run with room for it", t.run(100), DONE);
      Due.is("trapAt() after a run to the end", t.trapAt(), -1);
    }
  }

  /** "Preconditions, program, length terms and parameters never change through run." */
  private static void runKeepsTheRest() {
    for (int fuel : new int[] {0, 1, 5, 100}) {
      // The run(0) brings acc() and trapAt() to the same again: only what a run must keep could differ.
      Twins.same("closed, run before", Twins.after(States::closed, t -> {
        t.run(fuel);
        t.run(0);
      }), Twins.after(States::closed, t -> t.run(0)));
      Twins.same("fullAndClosed, run before", Twins.after(States::fullAndClosed, t -> {
        t.run(fuel);
        t.setCell(0, 0, 0);
        t.run(0);
      }), Twins.after(States::fullAndClosed, t -> t.run(0)));
    }
  }
}
