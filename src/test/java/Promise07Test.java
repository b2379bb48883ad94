/** Promise 7: writing and reading cells. */
public final class Promise07Test {
  public static void main(String[] args) {
    arrayOutsideIsRefused();
    indexOutsideIsRefused();
    wrongInBothWays();
    everyCellIsTaken();
    anyIntIsTaken();
    oneCellIsSetAlone();
    cellsAreIndependentOfLengths();
    cellOutsideIsZero();
    cellChangesNothing();
    setCellChangesNothingElse();
    Due.finish();
  }

  /** "a is not in 0..3". */
  private static void arrayOutsideIsRefused() {
    for (int a : Edges.outside(0, 3)) {
      for (int i : new int[] {0, 15}) {
        Twins.refused("setCell(" + a + ", " + i + ", 5)", t -> t.setCell(a, i, 5));
      }
    }
  }

  /** "or i is not in 0..15". */
  private static void indexOutsideIsRefused() {
    for (int i : Edges.outside(0, 15)) {
      for (int a = 0; a < 4; a++) {
        int array = a;
        Twins.refused("setCell(" + a + ", " + i + ", 5)", t -> t.setCell(array, i, 5));
      }
    }
  }

  /** Pairs that would meet a cell of another array, were one array to follow the other. */
  private static void wrongInBothWays() {
    Twins.refused("setCell(4, -16, 5)", t -> t.setCell(4, -16, 5));
    Twins.refused("setCell(-1, 16, 5)", t -> t.setCell(-1, 16, 5));
    Twins.refused("setCell(0, 63, 5)", t -> t.setCell(0, 63, 5));
    Twins.refused("setCell(3, -48, 5)", t -> t.setCell(3, -48, 5));
    // 268435456 times 16 wraps to 0.
    Twins.refused("setCell(268435456, 0, 5)", t -> t.setCell(268435456, 0, 5));
  }

  private static void everyCellIsTaken() {
    IndexTypeChecker t = States.fresh();
    for (int a = 0; a < 4; a++) {
      for (int i = 0; i < 16; i++) {
        Due.yes("setCell(" + a + ", " + i + ")", t.setCell(a, i, 100 * a + i - 50));
      }
    }
    for (int a = 0; a < 4; a++) {
      for (int i = 0; i < 16; i++) {
        Due.is("cell(" + a + ", " + i + ")", t.cell(a, i), 100 * a + i - 50);
      }
    }
  }

  /** "value, which may be any int". */
  private static void anyIntIsTaken() {
    IndexTypeChecker t = States.fresh();
    int[] values = {Edges.LOW, Edges.LOW + 1, -65536, -1001, -1000, -1, 0, 1, 1000, 1001, 65536, Edges.HIGH - 1, Edges.HIGH};
    for (int value : values) {
      Due.yes("setCell(2, 7, " + value + ")", t.setCell(2, 7, value));
      Due.is("cell(2, 7)", t.cell(2, 7), value);
    }
  }

  private static void oneCellIsSetAlone() {
    for (int a = 0; a < 4; a++) {
      for (int i = 0; i < 16; i++) {
        IndexTypeChecker t = States.fresh();
        t.setCell(a, i, -7);
        for (int b = 0; b < 4; b++) {
          for (int j = 0; j < 16; j++) {
            Due.is("cell(" + b + ", " + j + ") after setCell(" + a + ", " + i + ", -7)", t.cell(b, j),
                b == a && j == i ? -7 : 0);
          }
        }
      }
    }
  }

  /** "all 16 cells of an array may be set whatever its length term." */
  private static void cellsAreIndependentOfLengths() {
    for (int lc : new int[] {-1000, -1, 0, 1, 15, 16, 17, 1000}) {
      IndexTypeChecker t = States.fresh();
      t.declare(1, 0, lc);
      for (int i = 0; i < 16; i++) {
        Due.yes("setCell(1, " + i + ", 9) with length " + lc, t.setCell(1, i, 9));
        Due.is("cell(1, " + i + ") with length " + lc, t.cell(1, i), 9);
      }
      Due.no("setCell(1, 16, 9) with length " + lc, t.setCell(1, 16, 9));
      Due.no("setCell(1, -1, 9) with length " + lc, t.setCell(1, -1, 9));
      Due.is("cell(1, 16) with length " + lc, t.cell(1, 16), 0);
    }
  }

  /** "and 0 if a is not in 0..3 or i is not in 0..15." */
  private static void cellOutsideIsZero() {
    IndexTypeChecker t = States.trapped();
    for (int a : Edges.outside(0, 3)) {
      for (int i = -1; i <= 16; i++) {
        Due.is("cell(" + a + ", " + i + ")", t.cell(a, i), 0);
      }
    }
    for (int i : Edges.outside(0, 15)) {
      for (int a = -1; a <= 4; a++) {
        Due.is("cell(" + a + ", " + i + ")", t.cell(a, i), 0);
      }
    }
    Due.is("cell(268435456, 0)", t.cell(268435456, 0), 0);
    for (int a : Edges.inside(0, 3)) {
      for (int i : new int[] {0, 1, 14, 15}) {
        Due.is("cell(" + a + ", " + i + ")", t.cell(a, i), 100 * a + i + 1);
      }
    }
  }

  /** "It changes nothing." */
  private static void cellChangesNothing() {
    Twins.changesNothing("cell", t -> {
      t.cell(0, 0);
      t.cell(3, 15);
      t.cell(-1, 0);
      t.cell(4, 0);
      t.cell(0, -1);
      t.cell(0, 16);
    });
  }

  private static void setCellChangesNothingElse() {
    for (String name : States.names()) {
      Twins.same("a cell set to another value and back on " + name, Twins.after(States.of(name), t -> {
        int former = t.cell(2, 15);
        t.setCell(2, 15, 12345);
        t.setCell(2, 15, former);
      }), States.of(name));
    }
  }
}
