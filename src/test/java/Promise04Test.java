/** Promise 4: emitting instructions. */
public final class Promise04Test {
  private static final int LOOP = IndexTypeChecker.OP_LOOP;
  private static final int IF = IndexTypeChecker.OP_IF;
  private static final int END = IndexTypeChecker.OP_END;
  private static final int SET = IndexTypeChecker.OP_SET;
  private static final int[] NOT_BOUND_WITHOUT_A_LOOP = {Edges.LOW, -2, -1, 4, 5, 6, 7, 8, 9, Edges.HIGH};

  public static void main(String[] args) {
    emitIsRefusedOnceFull();
    opOutsideIsRefused();
    opInsideIsTaken();
    loopVariableOutsideIsRefused();
    loopVariableInsideIsTaken();
    loopVariableOfAnOpenLoopIsRefused();
    loopBoundThatIsNotBoundIsRefused();
    loopConstant();
    ifVariablesThatAreNotBoundAreRefused();
    ifVariablesThatAreBoundAreTaken();
    ifConstant();
    endWithoutAnOpenBlockIsRefused();
    endOperandsAreNotTested();
    setConstant();
    setOperandsAreNotTested();
    accessArrayOutsideIsRefused();
    accessArrayInsideIsTaken();
    accessVariableThatIsNotBoundIsRefused();
    accessVariableThatIsBoundIsTaken();
    accessConstant();
    boundRefersToTheProgramBeforeTheCall();
    instructionIsAppendedAtSize();
    endClosesTheInnermostBlock();
    closedLoopVariableMayBeUsedAgain();
    nothingOtherThanTheProgramChanges();
    Due.finish();
  }

  private static void refused(int op, int a, int v, int c) {
    Twins.refused("emit(" + op + ", " + a + ", " + v + ", " + c + ")", t -> t.emit(op, a, v, c));
  }

  private static void taken(IndexTypeChecker t, int op, int a, int v, int c) {
    int size = t.size();
    Due.yes("emit(" + op + ", " + a + ", " + v + ", " + c + ")", t.emit(op, a, v, c));
    Due.is("size() after it", t.size(), size + 1);
  }

  /** "size() equals programCap": the last that fits, and the first that doesn't, for every op. */
  private static void emitIsRefusedOnceFull() {
    for (int cap = 8; cap <= 32; cap++) {
      for (int op = 1; op <= 7; op++) {
        IndexTypeChecker t = new IndexTypeChecker(cap, 4);
        Emit.loop(t, 5, 0, 1);
        while (t.size() < cap - 1) {
          Emit.set(t, 0);
        }
        int a = op == LOOP ? 4 : 0;
        Due.yes("op " + op + " in the last place of " + cap, t.emit(op, a, 0, 0));
        for (int next = 1; next <= 7; next++) {
          Due.no("op " + next + " past programCap " + cap, t.emit(next, next == LOOP ? 6 : 0, 0, 0));
        }
        Due.is("size() when full", t.size(), cap);
      }
    }
    // In full a block is open, so that END is refused for want of room alone.
    Twins.refused("END when full", States::full, Emit::end);
    Twins.refused("LOOP when full", States::full, t -> Emit.loop(t, 4, 0, 1));
    Twins.refused("IF when full", States::full, t -> Emit.when(t, 0, 0, 0));
    Twins.refused("SET when full", States::full, t -> Emit.set(t, 0));
    Twins.refused("LOAD when full", States::full, t -> Emit.load(t, 0, 5, 0));
    Twins.refused("STORE when full", States::fullAndClosed, t -> Emit.store(t, 0, 0, 0));
    Twins.refused("an unknown op when full", States::full, t -> t.emit(0, 0, 0, 0));
  }

  /** "op is not in 1..7". */
  private static void opOutsideIsRefused() {
    for (int op : Edges.outside(1, 7)) {
      refused(op, 0, 0, 0);
      refused(op, 5, 0, 0);
    }
  }

  private static void opInsideIsTaken() {
    for (int op = 1; op <= 7; op++) {
      IndexTypeChecker t = States.fresh();
      Emit.loop(t, 4, 0, 1);
      taken(t, op, op == LOOP ? 5 : 0, 0, 0);
    }
  }

  /** "LOOP: a is not in 4..7". */
  private static void loopVariableOutsideIsRefused() {
    for (int a : Edges.outside(4, 7)) {
      refused(LOOP, a, 0, 1);
    }
    for (int a = 0; a < 4; a++) {
      refused(LOOP, a, 0, 1);
    }
  }

  private static void loopVariableInsideIsTaken() {
    for (int a = 4; a <= 7; a++) {
      for (int v = 0; v < 4; v++) {
        taken(States.fresh(), LOOP, a, v, 1);
      }
    }
    IndexTypeChecker t = States.fresh();
    for (int a = 7; a >= 4; a--) {
      taken(t, LOOP, a, a == 7 ? 3 : a + 1, 0);
    }
  }

  /** "or a is the variable of an open LOOP". */
  private static void loopVariableOfAnOpenLoopIsRefused() {
    Twins.refused("LOOP 4 in the IF in LOOP 4", States::open, t -> Emit.loop(t, 4, 0, 1));
    for (int first = 4; first <= 7; first++) {
      int outer = first;
      for (int second = 4; second <= 7; second++) {
        IndexTypeChecker t = States.fresh();
        Emit.loop(t, first, 0, 1);
        Due.is("LOOP " + second + " in LOOP " + first, Emit.loop(t, second, 0, 1) ? 1 : 0, second == first ? 0 : 1);
      }
      Twins.refused("LOOP " + first + " two blocks down",
          Twins.after(States::fresh, t -> {
            Emit.loop(t, outer, 0, 1);
            Emit.loop(t, outer == 7 ? 4 : outer + 1, 0, 1);
          }),
          t -> Emit.loop(t, outer, 0, 1));
    }
    IndexTypeChecker t = States.fresh();
    for (int a = 4; a <= 7; a++) {
      Emit.loop(t, a, 0, 1);
    }
    for (int a = 3; a <= 8; a++) {
      Due.no("LOOP " + a + " with all four open", Emit.loop(t, a, 0, 1));
    }
    Emit.end(t);
    Due.no("LOOP 6 with 4, 5 and 6 open", Emit.loop(t, 6, 0, 1));
    Due.yes("LOOP 7 with 4, 5 and 6 open", Emit.loop(t, 7, 0, 1));
  }

  /** "or v is not bound". */
  private static void loopBoundThatIsNotBoundIsRefused() {
    for (int v : NOT_BOUND_WITHOUT_A_LOOP) {
      Twins.refused("LOOP 4 " + v + " 1", States::fresh, t -> Emit.loop(t, 4, v, 1));
      Twins.refused("LOOP 4 " + v + " 1", States::closed, t -> Emit.loop(t, 4, v, 1));
      if (v != 4) {
        Twins.refused("LOOP 5 " + v + " 1 in LOOP 4", States::open, t -> Emit.loop(t, 5, v, 1));
      }
    }
    for (int v = 0; v <= 4; v++) {
      taken(States.open(), LOOP, 5, v, 1);
    }
  }

  /** "or c is not in [-1000, 1000]" of a LOOP. */
  private static void loopConstant() {
    for (int c : Edges.noConstants()) {
      refused(LOOP, 5, 0, c);
    }
    for (int c : Edges.constants()) {
      taken(States.open(), LOOP, 5, 1, c);
    }
  }

  /** "IF: a is not bound, or v is not bound". */
  private static void ifVariablesThatAreNotBoundAreRefused() {
    for (int bad : NOT_BOUND_WITHOUT_A_LOOP) {
      Twins.refused("IF " + bad + " 0 0", States::fresh, t -> Emit.when(t, bad, 0, 0));
      Twins.refused("IF 0 " + bad + " 0", States::fresh, t -> Emit.when(t, 0, bad, 0));
      Twins.refused("IF " + bad + " 0 0", States::closed, t -> Emit.when(t, bad, 0, 0));
      Twins.refused("IF 0 " + bad + " 0", States::closed, t -> Emit.when(t, 0, bad, 0));
      if (bad != 4) {
        Twins.refused("IF " + bad + " 4 0 in LOOP 4", States::open, t -> Emit.when(t, bad, 4, 0));
        Twins.refused("IF 4 " + bad + " 0 in LOOP 4", States::open, t -> Emit.when(t, 4, bad, 0));
      }
    }
  }

  private static void ifVariablesThatAreBoundAreTaken() {
    for (int a = 0; a <= 4; a++) {
      for (int v = 0; v <= 4; v++) {
        taken(States.open(), IF, a, v, 0);
      }
    }
    IndexTypeChecker t = States.fresh();
    Emit.when(t, 3, 3, 0);
    Due.no("IF binds no loop variable", Emit.load(t, 0, 4, 0));
    Due.yes("IF takes no loop variable", Emit.loop(t, 4, 0, 1));
  }

  /** "or c is not in [-1000, 1000]" of an IF. */
  private static void ifConstant() {
    for (int c : Edges.noConstants()) {
      refused(IF, 0, 0, c);
    }
    for (int c : Edges.constants()) {
      taken(States.open(), IF, 1, 4, c);
    }
  }

  /** "END: no block is open." */
  private static void endWithoutAnOpenBlockIsRefused() {
    Twins.refused("END on fresh", States::fresh, Emit::end);
    Twins.refused("END without a program", States::trapped, Emit::end);
    Twins.refused("END past the last block", States::closed, Emit::end);
    Twins.refused("END without a block", States::contrary, Emit::end);
    Twins.refused("END after clearProgram() in a block", Twins.after(States::open, IndexTypeChecker::clearProgram), Emit::end);
    for (int blocks = 1; blocks <= 16; blocks++) {
      IndexTypeChecker t = States.fresh();
      for (int n = 0; n < blocks; n++) {
        Emit.when(t, 0, 0, 0);
      }
      for (int n = 0; n < blocks; n++) {
        Due.yes("END number " + (n + 1) + " of " + blocks, Emit.end(t));
      }
      Due.no("one END more than " + blocks + " blocks", Emit.end(t));
      Due.is("size() after the ENDs", t.size(), 2 * blocks);
    }
  }

  /** "a, v and c are not tested" of an END. */
  private static void endOperandsAreNotTested() {
    for (int odd : new int[] {Edges.LOW, -1001, -1, 4, 8, 1001, Edges.HIGH}) {
      taken(States.open(), END, odd, 0, 0);
      taken(States.open(), END, 0, odd, 0);
      taken(States.open(), END, 0, 0, odd);
      Twins.same("END with operands " + odd, Twins.after(States::open, t -> t.emit(END, odd, odd, odd)),
          Twins.after(States::open, Emit::end));
    }
  }

  /** "SET: c is not in [-1000, 1000]." */
  private static void setConstant() {
    for (int c : Edges.noConstants()) {
      refused(SET, 0, 0, c);
    }
    for (int c : new int[] {-1000, -999, -1, 0, 1, 999, 1000}) {
      IndexTypeChecker t = States.fresh();
      taken(t, SET, 0, 0, c);
      t.run(9);
      Due.is("acc() after SET " + c, t.acc(), c);
    }
  }

  /** "a and v are not tested" of a SET. */
  private static void setOperandsAreNotTested() {
    for (int odd : new int[] {Edges.LOW, -1, 4, 8, 1001, Edges.HIGH}) {
      taken(States.open(), SET, odd, 0, 0);
      taken(States.open(), SET, 0, odd, 0);
      Twins.same("SET with operands " + odd, Twins.after(States::open, t -> t.emit(SET, odd, odd, 9)),
          Twins.after(States::open, t -> Emit.set(t, 9)));
    }
  }

  /** "LOAD, ADD, STORE: a is not in 0..3". */
  private static void accessArrayOutsideIsRefused() {
    for (int op = 5; op <= 7; op++) {
      for (int a : Edges.outside(0, 3)) {
        refused(op, a, 0, 0);
      }
      int access = op;
      // A loop variable's number is no array's.
      Twins.refused("emit(" + op + ", 4, 4, 0)", States::open, t -> t.emit(access, 4, 4, 0));
    }
  }

  private static void accessArrayInsideIsTaken() {
    for (int op = 5; op <= 7; op++) {
      for (int a = 0; a < 4; a++) {
        taken(States.fresh(), op, a, 0, 0);
      }
    }
  }

  /** "or v is not bound" of an access. */
  private static void accessVariableThatIsNotBoundIsRefused() {
    for (int op = 5; op <= 7; op++) {
      int access = op;
      for (int v : NOT_BOUND_WITHOUT_A_LOOP) {
        String call = "emit(" + op + ", 0, " + v + ", 0)";
        Twins.refused(call, States::fresh, t -> t.emit(access, 0, v, 0));
        Twins.refused(call, States::closed, t -> t.emit(access, 0, v, 0));
        if (v != 4) {
          Twins.refused(call + " in LOOP 4", States::open, t -> t.emit(access, 0, v, 0));
        }
      }
    }
  }

  private static void accessVariableThatIsBoundIsTaken() {
    for (int op = 5; op <= 7; op++) {
      for (int v = 0; v <= 4; v++) {
        taken(States.open(), op, 3, v, 0);
      }
    }
  }

  /** "or c is not in [-1000, 1000]" of an access. */
  private static void accessConstant() {
    for (int op = 5; op <= 7; op++) {
      for (int c : Edges.noConstants()) {
        refused(op, 0, 0, c);
      }
      for (int c : Edges.constants()) {
        taken(States.open(), op, 0, 4, c);
      }
    }
  }

  /** "'Bound' refers to the program as it stands before this call." */
  private static void boundRefersToTheProgramBeforeTheCall() {
    for (int v = 4; v <= 7; v++) {
      int variable = v;
      Twins.refused("LOOP " + v + " " + v + " 1", States::fresh, t -> Emit.loop(t, variable, variable, 1));
      IndexTypeChecker t = States.fresh();
      Emit.loop(t, v, 0, 1);
      Due.yes("LOAD just after LOOP " + v, Emit.load(t, 0, v, 0));
      Emit.end(t);
      Due.no("LOAD just after the END of LOOP " + v, Emit.load(t, 0, v, 0));
    }
  }

  /** "the instruction is appended at index size(), size() grows by one, and the answer is true." */
  private static void instructionIsAppendedAtSize() {
    IndexTypeChecker t = States.fresh();
    t.declare(1, 0, 4);
    for (int k = 0; k < 32; k++) {
      Due.is("size() before", t.size(), k);
      Due.is("status at size() before", t.accessStatus(k), IndexTypeChecker.ST_NOT_ACCESS);
      Due.yes("emit", Emit.load(t, 1, 0, k % 5));
      Due.is("size() after", t.size(), k + 1);
      for (int j = 0; j <= k; j++) {
        Due.is("status of " + j, t.accessStatus(j), j % 5 == 4 ? IndexTypeChecker.ST_HIGH_FAIL : IndexTypeChecker.ST_OK);
      }
    }
  }

  /** "A LOOP or IF opens a block; an END closes the innermost open block." */
  private static void endClosesTheInnermostBlock() {
    IndexTypeChecker t = States.fresh();
    Emit.loop(t, 4, 0, 1);
    Due.is("check() in one block", t.check(), IndexTypeChecker.INCOMPLETE);
    Emit.when(t, 0, 0, 0);
    Emit.loop(t, 5, 0, 1);
    Emit.end(t);
    Due.no("5 is no longer bound", Emit.load(t, 0, 5, 0));
    Due.yes("4 is still bound", Emit.load(t, 0, 4, 0));
    Emit.end(t);
    Due.yes("4 is still bound after the END of the IF", Emit.load(t, 0, 4, 0));
    Due.is("check() in the outer block", t.check(), IndexTypeChecker.INCOMPLETE);
    Emit.end(t);
    Due.no("4 is no longer bound", Emit.load(t, 0, 4, 0));
    Due.yes("check() is not INCOMPLETE", t.check() != IndexTypeChecker.INCOMPLETE);
  }

  /** "A loop variable whose LOOP block has been closed may be used again by a later LOOP." */
  private static void closedLoopVariableMayBeUsedAgain() {
    IndexTypeChecker t = States.fresh();
    Emit.loop(t, 4, 0, 1);
    for (int n = 0; n < 10; n++) {
      Due.yes("LOOP 5, time " + (n + 1), Emit.loop(t, 5, 4, 1));
      Due.no("LOOP 4 while it is open", Emit.loop(t, 4, 0, 1));
      Emit.end(t);
    }
    Emit.end(t);
    Due.no("LOOP 5 under 4, which is closed", Emit.loop(t, 5, 4, 1));
    Due.yes("LOOP 4 again", Emit.loop(t, 4, 0, 1));
    Due.yes("LOOP 5 under 4 again", Emit.loop(t, 5, 4, 1));
  }

  /** "Nothing other than the program changes." */
  private static void nothingOtherThanTheProgramChanges() {
    for (String name : States.names()) {
      Twins.same("instructions emitted and cleared on " + name, Twins.after(States.of(name), t -> {
        Emit.loop(t, 6, 1, 3);
        Emit.store(t, 2, 6, 0);
        Emit.when(t, 6, 6, -1);
        Emit.set(t, 99);
        Emit.end(t);
        t.clearProgram();
      }), Twins.after(States.of(name), IndexTypeChecker::clearProgram));
    }
    IndexTypeChecker t = States.trapped();
    Emit.set(t, 5);
    Emit.store(t, 2, 0, 0);
    Due.is("acc() after emit", t.acc(), 41);
    Due.is("trapAt() after emit", t.trapAt(), 2);
    Due.is("cell(2, 0) after emit", t.cell(2, 0), 201);
  }
}
