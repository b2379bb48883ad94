import java.util.function.Supplier;

/** Objects in different states, made anew at each asking, for calls to be tried on. */
final class States {
  private States() {}

  static IndexTypeChecker fresh() {
    return new IndexTypeChecker(32, 16);
  }

  /** Something of everything but a program: acc() is 41 and trapAt() is 2. */
  static IndexTypeChecker trapped() {
    IndexTypeChecker t = new IndexTypeChecker(12, 6);
    t.addPre(0, 1, 0);
    t.addPre(1, 2, -1);
    t.declare(0, 1, 0);
    t.declare(1, 2, 1);
    t.declare(2, 0, 5);
    t.declare(3, 3, 9);
    t.setParam(1, 3);
    t.setParam(2, 5);
    t.setParam(3, -4);
    for (int a = 0; a < 4; a++) {
      for (int i = 0; i < 16; i++) {
        t.setCell(a, i, 100 * a + i + 1);
      }
    }
    Emit.set(t, 41);
    Emit.store(t, 0, 1, -1);
    Emit.store(t, 0, 1, 0);
    t.run(100);
    t.clearProgram();
    return t;
  }

  /** As trapped, with a LOOP of variable 4 and an IF in it open. */
  static IndexTypeChecker open() {
    IndexTypeChecker t = trapped();
    Emit.load(t, 2, 0, 4);
    Emit.loop(t, 4, 1, 0);
    Emit.when(t, 0, 4, -1);
    Emit.add(t, 0, 4, -1);
    Emit.add(t, 1, 4, 9);
    return t;
  }

  /** As open, with both blocks closed, so that it runs, to a trap at its last access. */
  static IndexTypeChecker closed() {
    IndexTypeChecker t = open();
    Emit.end(t);
    Emit.end(t);
    return t;
  }

  /** No room for another instruction or precondition; the last block is open. */
  static IndexTypeChecker full() {
    IndexTypeChecker t = new IndexTypeChecker(8, 4);
    t.addPre(0, 1, 0);
    t.addPre(1, 0, 9);
    t.addPre(2, 1, -1);
    t.addPre(0, 2, 7);
    t.declare(0, 1, 0);
    t.setParam(1, 2);
    Emit.loop(t, 4, 1, 0);
    Emit.set(t, 7);
    Emit.store(t, 0, 4, 0);
    Emit.end(t);
    Emit.load(t, 0, 1, -1);
    Emit.set(t, -6);
    Emit.set(t, 8);
    Emit.loop(t, 5, 1, 0);
    return t;
  }

  /** As full, but for the open block, so that it runs. */
  static IndexTypeChecker fullAndClosed() {
    IndexTypeChecker t = new IndexTypeChecker(8, 4);
    t.addPre(0, 1, 0);
    t.addPre(1, 0, 9);
    t.addPre(2, 3, 5);
    t.addPre(3, 3, 0);
    t.declare(0, 1, 0);
    t.setParam(1, 2);
    Emit.loop(t, 4, 1, 0);
    Emit.when(t, 4, 0, 0);
    Emit.set(t, 7);
    Emit.store(t, 0, 4, 0);
    Emit.end(t);
    Emit.end(t);
    Emit.load(t, 0, 0, 0);
    Emit.add(t, 0, 0, 0);
    return t;
  }

  /** Its preconditions have no integer solution. */
  static IndexTypeChecker contrary() {
    IndexTypeChecker t = new IndexTypeChecker(9, 5);
    t.addPre(1, 2, 0);
    t.addPre(2, 1, -1);
    Emit.load(t, 0, 3, 500);
    return t;
  }

  /** As contrary, and all four loop variables are bound, so that only their numbers speak against them. */
  static IndexTypeChecker contraryAndOpen() {
    IndexTypeChecker t = contrary();
    for (int v = 4; v < 8; v++) {
      Emit.loop(t, v, 0, 1);
    }
    return t;
  }

  static String[] names() {
    return new String[] {
      "fresh", "trapped", "open", "closed", "full", "fullAndClosed", "contrary", "contraryAndOpen"
    };
  }

  static Supplier<IndexTypeChecker> of(String name) {
    return switch (name) {
      case "trapped" -> States::trapped;
      case "open" -> States::open;
      case "closed" -> States::closed;
      case "full" -> States::full;
      case "fullAndClosed" -> States::fullAndClosed;
      case "contrary" -> States::contrary;
      case "contraryAndOpen" -> States::contraryAndOpen;
      default -> States::fresh;
    };
  }
}
