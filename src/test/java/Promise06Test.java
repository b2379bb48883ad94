/** Promise 6: setting parameters. */
public final class Promise06Test {
  public static void main(String[] args) {
    numberOutsideIsRefused();
    numberInsideIsTaken();
    valueOutsideIsRefused();
    valueInsideIsTaken();
    wrongInBothWays();
    theFormerValueIsReplaced();
    eachParameterIsItsOwn();
    theCheckerDoesNotSeeParameters();
    takenWithBlocksOpenAndWhenFull();
    nothingElseChanges();
    Due.finish();
  }

  /** "p is not in 1..3". */
  private static void numberOutsideIsRefused() {
    for (int p : Edges.outside(1, 3)) {
      Twins.refused("setParam(" + p + ", 5)", t -> t.setParam(p, 5));
    }
    for (int p = 4; p <= 8; p++) {
      int variable = p;
      Twins.refused("setParam(" + p + ", 5)", t -> t.setParam(variable, 5));
    }
  }

  private static int valueOf(IndexTypeChecker t, int p) {
    for (int c = -1000; c <= 1000; c++) {
      t.clearProgram();
      Emit.when(t, p, 0, c);
      Emit.set(t, 1);
      Emit.end(t);
      t.run(9);
      if (t.acc() == 1) {
        return c;
      }
    }
    return 1001;
  }

  private static void numberInsideIsTaken() {
    for (int p = 1; p <= 3; p++) {
      IndexTypeChecker t = States.fresh();
      Due.yes("setParam(" + p + ", 6)", t.setParam(p, 6));
      for (int q = 1; q <= 3; q++) {
        Due.is("parameter " + q + " after setParam(" + p + ", 6)", valueOf(t, q), q == p ? 6 : 0);
      }
      Due.is("variable 0 after setParam(" + p + ", 6)", valueOf(t, 0), 0);
    }
  }

  /** "value is not in [-1000, 1000]". */
  private static void valueOutsideIsRefused() {
    for (int p = 1; p <= 3; p++) {
      int parameter = p;
      for (int value : Edges.noConstants()) {
        Twins.refused("setParam(" + p + ", " + value + ")", t -> t.setParam(parameter, value));
      }
    }
  }

  private static void valueInsideIsTaken() {
    for (int p = 1; p <= 3; p++) {
      for (int value : new int[] {-1000, -999, -1, 0, 1, 999, 1000}) {
        IndexTypeChecker t = States.fresh();
        Due.yes("setParam(" + p + ", " + value + ")", t.setParam(p, value));
        Due.is("parameter " + p, valueOf(t, p), value);
      }
    }
  }

  private static void wrongInBothWays() {
    Twins.refused("setParam(0, 1001)", t -> t.setParam(0, 1001));
    Twins.refused("setParam(4, -1001)", t -> t.setParam(4, -1001));
  }

  private static void theFormerValueIsReplaced() {
    for (String name : States.names()) {
      Twins.same("set twice on " + name, Twins.after(States.of(name), t -> {
        t.setParam(2, -1000);
        t.setParam(2, 7);
      }), Twins.after(States.of(name), t -> t.setParam(2, 7)));
    }
  }

  private static void eachParameterIsItsOwn() {
    IndexTypeChecker t = States.fresh();
    t.setParam(1, -1000);
    t.setParam(2, 1000);
    t.setParam(3, 1);
    Due.is("parameter 1", valueOf(t, 1), -1000);
    Due.is("parameter 2", valueOf(t, 2), 1000);
    Due.is("parameter 3", valueOf(t, 3), 1);
    Due.is("variable 0", valueOf(t, 0), 0);
  }

  /** "they have no effect on consistent, implies, accessStatus or check". */
  private static void theCheckerDoesNotSeeParameters() {
    for (int value : new int[] {-1000, -1, 0, 1, 1000}) {
      for (int p = 1; p <= 3; p++) {
        IndexTypeChecker t = States.closed();
        IndexTypeChecker u = States.closed();
        t.setParam(p, value);
        Due.is("consistent()", t.consistent() ? 1 : 0, 1);
        Due.is("check()", t.check(), u.check());
        for (int k = 0; k < 8; k++) {
          Due.is("accessStatus(" + k + ")", t.accessStatus(k), u.accessStatus(k));
        }
        for (int x = 0; x < 4; x++) {
          for (int y = 0; y < 4; y++) {
            for (int c = -2; c <= 2; c++) {
              Due.is("implies(" + x + ", " + y + ", " + c + ")", t.implies(x, y, c) ? 1 : 0, u.implies(x, y, c) ? 1 : 0);
            }
          }
        }
      }
    }
    // Here parameter 1 is below what the preconditions allow, and a run is refused for it.
    IndexTypeChecker t = States.fresh();
    t.addPre(0, 1, -1);
    t.declare(0, 1, 0);
    Emit.load(t, 0, 0, 0);
    Due.yes("consistent() while the parameters break it", t.consistent());
    Due.is("check() while the parameters break it", t.check(), IndexTypeChecker.ACCEPTED);
    Due.is("run while the parameters break it", t.run(9), IndexTypeChecker.RUN_REFUSED);
    t.setParam(1, 1);
    Due.is("run once they do not", t.run(9), IndexTypeChecker.RUN_DONE);
  }

  private static void takenWithBlocksOpenAndWhenFull() {
    for (String name : States.names()) {
      IndexTypeChecker t = States.of(name).get();
      int acc = t.acc();
      int trapAt = t.trapAt();
      int size = t.size();
      Due.yes("setParam(3, 12) on " + name, t.setParam(3, 12));
      Due.is("acc() after setParam", t.acc(), acc);
      Due.is("trapAt() after setParam", t.trapAt(), trapAt);
      Due.is("size() after setParam", t.size(), size);
    }
  }

  /** "sets the concrete value of parameter p", and no more: with it set back, all is as it was. */
  private static void nothingElseChanges() {
    int[] made = {0, 3, 5, -4};
    for (int p = 1; p <= 3; p++) {
      int parameter = p;
      for (String name : new String[] {"trapped", "open", "closed"}) {
        Twins.unchanged("setParam(" + p + ", 16) and back on " + name, States.of(name), t -> {
          t.setParam(parameter, 16);
          t.setParam(parameter, made[parameter]);
        });
      }
    }
  }
}
