import java.util.function.Consumer;
import java.util.function.Supplier;

/** The tests that a call changes nothing are worth what Sight sees: every change must show in it. */
public final class SightTest {
  public static void main(String[] args) {
    preconditions();
    lengths();
    instructions();
    parameters();
    cells();
    runs();
    caps();
    Due.finish();
  }

  private static void seen(String call, Supplier<IndexTypeChecker> made, Consumer<IndexTypeChecker> calls) {
    boolean same = Sight.of(made).equals(Sight.of(Twins.after(made, calls)));
    Due.no(call + " is not seen", same);
  }

  private static void preconditions() {
    seen("addPre", States::closed, t -> t.addPre(3, 0, 5));
    seen("a duplicate addPre", States::closed, t -> t.addPre(0, 1, 0));
    seen("clearPre()", States::closed, IndexTypeChecker::clearPre);
    seen("clearPre() on contrary", States::contrary, IndexTypeChecker::clearPre);
  }

  private static void lengths() {
    for (int a = 0; a < 4; a++) {
      int array = a;
      seen("declare(" + a + ", 0, 6)", States::closed, t -> t.declare(array, 0, 6));
      seen("declare(" + a + ", 0, 1)", States::fresh, t -> t.declare(array, 0, 1));
      seen("declare(" + a + ", 1, 0)", States::fresh, t -> t.declare(array, 1, 0));
    }
  }

  private static void instructions() {
    for (int op = 1; op <= 7; op++) {
      int emitted = op;
      seen("emit of op " + op, States::open, t -> t.emit(emitted, emitted == 1 ? 5 : 0, 0, 0));
    }
    for (String name : new String[] {"open", "closed", "full", "fullAndClosed", "contrary"}) {
      seen("clearProgram() on " + name, States.of(name), IndexTypeChecker::clearProgram);
    }
  }

  private static void parameters() {
    for (String name : States.names()) {
      for (int p = 1; p <= 3; p++) {
        int parameter = p;
        seen("setParam(" + p + ", 1) on " + name, States.of(name), t -> t.setParam(parameter, 1));
      }
    }
  }

  private static void cells() {
    for (int a = 0; a < 4; a++) {
      for (int i = 0; i < 16; i++) {
        int array = a;
        int cell = i;
        seen("setCell(" + a + ", " + i + ", -1)", States::open, t -> t.setCell(array, cell, -1));
      }
    }
  }

  private static void runs() {
    seen("run(0)", States::trapped, t -> t.run(0));
    seen("run(1)", States::closed, t -> t.run(1));
    seen("run(100)", States::closed, t -> t.run(100));
    seen("run(100)", States::fullAndClosed, t -> t.run(100));
  }

  private static void caps() {
    for (int cap = 8; cap < 32; cap++) {
      int programCap = cap;
      boolean same = Sight.of(() -> new IndexTypeChecker(programCap, 4))
          .equals(Sight.of(() -> new IndexTypeChecker(programCap + 1, 4)));
      Due.no("programCap " + cap + " and one more are not told apart", same);
    }
    for (int cap = 4; cap < 16; cap++) {
      int preCap = cap;
      boolean same = Sight.of(() -> new IndexTypeChecker(8, preCap))
          .equals(Sight.of(() -> new IndexTypeChecker(8, preCap + 1)));
      Due.no("preCap " + cap + " and one more are not told apart", same);
    }
  }
}
