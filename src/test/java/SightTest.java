import java.util.HashSet;
import java.util.Set;
import java.util.function.Consumer;
import java.util.function.Supplier;

/**
 * The tests that a call changes nothing are worth what Sight sees: it must see what was made, and
 * every change of it.
 */
public final class SightTest {
  public static void main(String[] args) {
    preconditions();
    lengths();
    instructions();
    parameters();
    cells();
    runs();
    caps();
    whatWasMade();
    Due.finish();
  }

  private static void seen(String call, Supplier<IndexTypeChecker> made, Consumer<IndexTypeChecker> calls) {
    boolean same = Sight.of(made).equals(Sight.of(Twins.after(made, calls)));
    Due.no(call + " is not seen", same);
  }

  private static void preconditions() {
    seen("addPre", States::closed, t -> t.addPre(3, 0, 5));
    seen("a duplicate addPre", States::closed, t -> t.addPre(0, 1, 0));
    seen("clearPre()", States::closed, IndexTypeChecker::clearPre);
    seen("clearPre() on contrary", States::contrary, IndexTypeChecker::clearPre);
  }

  private static void lengths() {
    for (int a = 0; a < 4; a++) {
      int array = a;
      seen("declare(" + a + ", 0, 6)", States::closed, t -> t.declare(array, 0, 6));
      seen("declare(" + a + ", 0, 1)", States::fresh, t -> t.declare(array, 0, 1));
      seen("declare(" + a + ", 1, 0)", States::fresh, t -> t.declare(array, 1, 0));
    }
  }

  private static void instructions() {
    for (int op = 1; op <= 7; op++) {
      int emitted = op;
      seen("emit of op " + op, States::open, t -> t.emit(emitted, emitted == 1 ? 5 : 0, 0, 0));
    }
    for (String name : new String[] {"open", "closed", "full", "fullAndClosed", "contrary"}) {
      seen("clearProgram() on " + name, States.of(name), IndexTypeChecker::clearProgram);
    }
  }

  private static void parameters() {
    for (String name : States.names()) {
      for (int p = 1; p <= 3; p++) {
        int parameter = p;
        seen("setParam(" + p + ", 1) on " + name, States.of(name), t -> t.setParam(parameter, 1));
      }
    }
  }

  private static void cells() {
    for (int a = 0; a < 4; a++) {
      for (int i = 0; i < 16; i++) {
        int array = a;
        int cell = i;
        seen("setCell(" + a + ", " + i + ", -1)", States::open, t -> t.setCell(array, cell, -1));
      }
    }
  }

  private static void runs() {
    seen("run(0)", States::trapped, t -> t.run(0));
    seen("run(1)", States::closed, t -> t.run(1));
    seen("run(100)", States::closed, t -> t.run(100));
    seen("run(100)", States::fullAndClosed, t -> t.run(100));
  }

  private static void caps() {
    for (int cap = 8; cap < 32; cap++) {
      int programCap = cap;
      boolean same = Sight.of(() -> new IndexTypeChecker(programCap, 4))
          .equals(Sight.of(() -> new IndexTypeChecker(programCap + 1, 4)));
      Due.no("programCap " + cap + " and one more are not told apart", same);
    }
    for (int cap = 4; cap < 16; cap++) {
      int preCap = cap;
      boolean same = Sight.of(() -> new IndexTypeChecker(8, preCap))
          .equals(Sight.of(() -> new IndexTypeChecker(8, preCap + 1)));
      Due.no("preCap " + cap + " and one more are not told apart", same);
    }
  }

  /** A call by which Sight looks could spoil what it looks for, in all objects alike. */
  private static void whatWasMade() {
    Set<String> lines = new HashSet<>(Sight.of(States::trapped));
    has(lines, "size()", 0);
    has(lines, "acc()", 41);
    has(lines, "trapAt()", 2);
    has(lines, "check()", IndexTypeChecker.ACCEPTED);
    has(lines, "consistent()", 1);
    has(lines, "room for instructions", 12);
    has(lines, "room for preconditions", 4);
    madeCells(lines);
    madePreconditions(lines);
    madeLengths(lines);
    madeParameters(lines);
  }

  private static void has(Set<String> lines, String what, int answer) {
    Due.yes(what + " is seen as " + answer, lines.contains(what + " = " + answer));
  }

  private static void madeCells(Set<String> lines) {
    for (int a = 0; a < 4; a++) {
      for (int i = 0; i < 16; i++) {
        int due = a == 0 && i == 2 ? 41 : 100 * a + i + 1;
        has(lines, "at first, cell(" + a + ", " + i + ")", due);
        has(lines, "after run(3), cell(" + a + ", " + i + ")", due);
        has(lines, "after run(10000), cell(" + a + ", " + i + ")", due);
      }
    }
  }

  private static void madePreconditions(Set<String> lines) {
    int[][] due = {{0, 0, -1, 1001}, {1001, 0, -1, 1001}, {1001, 1001, 0, 1001}, {1001, 1001, 1001, 0}};
    for (int x = 0; x < 4; x++) {
      for (int y = 0; y < 4; y++) {
        has(lines, "least c that is implied for " + x + " - " + y, due[x][y]);
      }
    }
  }

  private static void madeLengths(Set<String> lines) {
    int[][] without = {{-1000, 0, -1000, -1000}, {-1000, -1000, 1, -1000}, {5, -1000, -1000, -1000}, {-1000, -1000, -1000, 9}};
    int[][] under = {{0, 0, -1000, -1000}, {2, 2, 1, -1000}, {5, -1000, -1000, -1000}, {-1000, -1000, -1000, 9}};
    for (int a = 0; a < 4; a++) {
      for (int v = 0; v < 4; v++) {
        String what = ", least c with (" + v + ", c) past array " + a;
        has(lines, "without preconditions" + what, without[a][v]);
        has(lines, "under the preconditions" + what, under[a][v]);
      }
    }
  }

  private static void madeParameters(Set<String> lines) {
    int[] due = {0, 3, 5, -4};
    for (int p = 0; p < 4; p++) {
      has(lines, "as they stand, value of variable " + p, due[p]);
      has(lines, "without preconditions and lengths, value of variable " + p, due[p]);
    }
  }
}
