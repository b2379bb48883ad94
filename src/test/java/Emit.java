/** The instructions by their names, so that a program in a test reads as one. */
final class Emit {
  private Emit() {}

  static boolean loop(IndexTypeChecker t, int a, int v, int c) {
    return t.emit(IndexTypeChecker.OP_LOOP, a, v, c);
  }

  static boolean when(IndexTypeChecker t, int a, int v, int c) {
    return t.emit(IndexTypeChecker.OP_IF, a, v, c);
  }

  static boolean end(IndexTypeChecker t) {
    return t.emit(IndexTypeChecker.OP_END, 0, 0, 0);
  }

  static boolean set(IndexTypeChecker t, int c) {
    return t.emit(IndexTypeChecker.OP_SET, 0, 0, c);
  }

  static boolean load(IndexTypeChecker t, int a, int v, int c) {
    return t.emit(IndexTypeChecker.OP_LOAD, a, v, c);
  }

  static boolean add(IndexTypeChecker t, int a, int v, int c) {
    return t.emit(IndexTypeChecker.OP_ADD, a, v, c);
  }

  static boolean store(IndexTypeChecker t, int a, int v, int c) {
    return t.emit(IndexTypeChecker.OP_STORE, a, v, c);
  }
}
