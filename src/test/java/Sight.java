import java.util.ArrayList;
import java.util.List;
import java.util.function.IntPredicate;
import java.util.function.Supplier;

/**
 * All that calls can find out about an object. Much of it shows only by calls that change the
 * object, and a faulty call could hide what another would show, so each kind of question has a new
 * object, made in the same way.
 */
final class Sight {
  private final List<String> lines = new ArrayList<>();

  private Sight() {}

  static List<String> of(Supplier<IndexTypeChecker> made) {
    Sight sight = new Sight();
    sight.firstAnswers(made);
    sight.tightestImplied(made.get());
    sight.runs(made.get());
    sight.room(made.get());
    sight.boundAndOpen(made.get());
    sight.lengths("under the preconditions", made.get());
    sight.lengths("without preconditions", Twins.after(made, IndexTypeChecker::clearPre).get());
    sight.parameters("as they stand", made.get());
    sight.parameters("without preconditions and lengths", Twins.after(made, Sight::clearPreAndLengths).get());
    return sight.lines;
  }

  private void see(String what, int answer) {
    lines.add(what + " = " + answer);
  }

  private static int bit(boolean answer) {
    return answer ? 1 : 0;
  }

  private void firstAnswers(Supplier<IndexTypeChecker> made) {
    see("size()", made.get().size());
    see("acc()", made.get().acc());
    see("trapAt()", made.get().trapAt());
    see("check()", made.get().check());
    see("consistent()", bit(made.get().consistent()));
    statuses("at first", made.get());
    cells("at first", made.get());
  }

  private void answers(String when, IndexTypeChecker t) {
    see(when + ", size()", t.size());
    see(when + ", acc()", t.acc());
    see(when + ", trapAt()", t.trapAt());
    see(when + ", check()", t.check());
    see(when + ", consistent()", bit(t.consistent()));
    statuses(when, t);
    cells(when, t);
  }

  private void statuses(String when, IndexTypeChecker t) {
    for (int k = -1; k <= 32; k++) {
      see(when + ", accessStatus(" + k + ")", t.accessStatus(k));
    }
  }

  private void cells(String when, IndexTypeChecker t) {
    for (int a = 0; a < 4; a++) {
      for (int i = 0; i < 16; i++) {
        see(when + ", cell(" + a + ", " + i + ")", t.cell(a, i));
      }
    }
  }

  private void tightestImplied(IndexTypeChecker t) {
    for (int x = 0; x < 4; x++) {
      for (int y = 0; y < 4; y++) {
        int left = x;
        int right = y;
        see("least c that is implied for " + x + " - " + y, least(c -> t.implies(left, right, c)));
      }
    }
  }

  private void runs(IndexTypeChecker t) {
    see("run(3)", t.run(3));
    answers("after run(3)", t);
    see("run(10000)", t.run(10000));
    answers("after run(10000)", t);
  }

  private void room(IndexTypeChecker t) {
    int instructions = 0;
    while (instructions < 100 && Emit.set(t, 5)) {
      instructions++;
    }
    int preconditions = 0;
    while (preconditions < 100 && t.addPre(3, 3, 1)) {
      preconditions++;
    }
    see("room for instructions", instructions);
    see("room for preconditions", preconditions);
  }

  private void boundAndOpen(IndexTypeChecker t) {
    for (int v = -1; v <= 8; v++) {
      see("LOAD with variable " + v, bit(Emit.load(t, 0, v, 1)));
    }
    int ends = 0;
    while (ends < 100 && Emit.end(t)) {
      ends++;
    }
    see("blocks that END closes", ends);
    see("run(10000) of the closed program", t.run(10000));
    answers("after closing and running", t);
  }

  /** Without preconditions UPPER holds for (v, c) only if v is the length's variable and c below its constant. */
  private void lengths(String when, IndexTypeChecker t) {
    for (int a = 0; a < 4; a++) {
      for (int v = 0; v < 4; v++) {
        int array = a;
        int variable = v;
        see(when + ", least c with (" + v + ", c) past array " + a, least(c -> isPast(t, array, variable, c)));
      }
    }
  }

  private static boolean isPast(IndexTypeChecker t, int a, int v, int c) {
    t.clearProgram();
    Emit.load(t, a, v, c);
    int status = t.accessStatus(0);
    return status == IndexTypeChecker.ST_HIGH_FAIL || status == IndexTypeChecker.ST_BOTH_FAIL;
  }

  private static void clearPreAndLengths(IndexTypeChecker t) {
    t.clearPre();
    for (int a = 0; a < 4; a++) {
      t.declare(a, 0, 0);
    }
  }

  /** Where runs are refused, all variables are seen alike. */
  private void parameters(String when, IndexTypeChecker t) {
    for (int p = 0; p < 4; p++) {
      int parameter = p;
      see(when + ", value of variable " + p, least(c -> isAtMost(t, parameter, c)));
    }
  }

  private static boolean isAtMost(IndexTypeChecker t, int p, int c) {
    t.clearProgram();
    Emit.when(t, p, 0, c);
    Emit.set(t, 1);
    Emit.end(t);
    return t.run(9) != IndexTypeChecker.RUN_REFUSED && t.acc() == 1;
  }

  /** The least constant that is found true, where those above are true too; 1001 if none is. */
  private static int least(IntPredicate found) {
    int below = -1001;
    int from = 1001;
    while (from - below > 1) {
      int middle = Math.floorDiv(below + from, 2);
      if (found.test(middle)) {
        from = middle;
      } else {
        below = middle;
      }
    }
    return from;
  }
}
