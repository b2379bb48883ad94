/** The two programs of README.md, call for call, with the answers that its comments tell. */
public final class ReadmeTest {
  public static void main(String[] args) {
    IndexTypeChecker t = new IndexTypeChecker(32, 16);
    sum(t);
    sumThatReachesPast(t);
    Due.finish();
  }

  private static void sum(IndexTypeChecker t) {
    Due.yes("addPre(0, 1, 0)", t.addPre(0, 1, 0));
    Due.yes("declare(0, 1, 0)", t.declare(0, 1, 0));
    Due.yes("LOOP", t.emit(IndexTypeChecker.OP_LOOP, 4, 1, 0));
    Due.yes("ADD", t.emit(IndexTypeChecker.OP_ADD, 0, 4, 0));
    Due.yes("END", t.emit(IndexTypeChecker.OP_END, 0, 0, 0));
    Due.is("check()", t.check(), IndexTypeChecker.ACCEPTED);
    Due.yes("setParam(1, 2)", t.setParam(1, 2));
    Due.yes("setCell(0, 0, 5)", t.setCell(0, 0, 5));
    Due.yes("setCell(0, 1, 6)", t.setCell(0, 1, 6));
    Due.is("run(100)", t.run(100), IndexTypeChecker.RUN_DONE);
    Due.is("acc()", t.acc(), 11);
  }

  private static void sumThatReachesPast(IndexTypeChecker t) {
    t.clearProgram();
    Due.yes("LOOP", t.emit(IndexTypeChecker.OP_LOOP, 4, 1, 0));
    Due.yes("ADD", t.emit(IndexTypeChecker.OP_ADD, 0, 4, 1));
    Due.yes("END", t.emit(IndexTypeChecker.OP_END, 0, 0, 0));
    Due.is("check()", t.check(), 1);
    Due.is("accessStatus(1)", t.accessStatus(1), IndexTypeChecker.ST_HIGH_FAIL);
    Due.is("run(100)", t.run(100), IndexTypeChecker.RUN_TRAP);
    Due.is("trapAt()", t.trapAt(), 1);
    Due.is("acc()", t.acc(), 6);
  }
}
