public final class IndexTypeChecker {
  public static final int OP_LOOP = 1;
  public static final int OP_IF = 2;
  public static final int OP_END = 3;
  public static final int OP_SET = 4;
  public static final int OP_LOAD = 5;
  public static final int OP_ADD = 6;
  public static final int OP_STORE = 7;
  public static final int ST_NOT_ACCESS = 0;
  public static final int ST_OK = 1;
  public static final int ST_LOW_FAIL = 2;
  public static final int ST_HIGH_FAIL = 3;
  public static final int ST_BOTH_FAIL = 4;
  public static final int ACCEPTED = -1;
  public static final int INCOMPLETE = -2;
  public static final int RUN_DONE = 0;
  public static final int RUN_TRAP = 1;
  public static final int RUN_OUT_OF_FUEL = 2;
  public static final int RUN_REFUSED = 3;
  public static final int MAX_CONST = 1000;
  public static final int MAX_FUEL = 10000;
  public static final int CELLS = 16;

  private static final int VARIABLES = 8;
  private static final int FIRST_LOOP_VARIABLE = 4;
  private static final int ARRAYS = 4;
  private static final int ALL_CELLS = 64;
  private static final int LEAST_PROGRAM_CAP = 8;
  private static final int GREATEST_PROGRAM_CAP = 32;
  private static final int LEAST_PRE_CAP = 4;
  private static final int GREATEST_PRE_CAP = 16;
  // Every precondition, two constraints for each instruction, and one negated goal.
  private static final int MAX_CONSTRAINTS = 81;
  private static final int NONE = -1;

  private final int programCap;
  private final int preCap;

  private final int[] opOf = new int[GREATEST_PROGRAM_CAP];
  private final int[] aOf = new int[GREATEST_PROGRAM_CAP];
  private final int[] vOf = new int[GREATEST_PROGRAM_CAP];
  private final int[] cOf = new int[GREATEST_PROGRAM_CAP];
  // For a block's opener the index of its END (NONE while open), for an END its opener.
  private final int[] partnerOf = new int[GREATEST_PROGRAM_CAP];
  private int programSize = 0;

  private final int[] openBlocks = new int[GREATEST_PROGRAM_CAP];
  private int openCount = 0;

  private final int[] preX = new int[GREATEST_PRE_CAP];
  private final int[] preY = new int[GREATEST_PRE_CAP];
  private final int[] preC = new int[GREATEST_PRE_CAP];
  private int preCount = 0;

  private final int[] lengthVariable = new int[ARRAYS];
  private final int[] lengthConstant = new int[ARRAYS];
  private final int[] cells = new int[ALL_CELLS];

  // Entry 0 is never written, so variable 0 reads as zero like any other variable.
  private final int[] valueNow = new int[VARIABLES];
  // One entry for each variable suffices: a loop variable is never bound twice at once.
  private final int[] loopEnd = new int[VARIABLES];
  private int accumulator = 0;
  private int trapIndex = NONE;

  // Work space of the checker, filled anew by every question.
  private final int[] constraintX = new int[MAX_CONSTRAINTS];
  private final int[] constraintY = new int[MAX_CONSTRAINTS];
  private final int[] constraintC = new int[MAX_CONSTRAINTS];
  private int constraintCount = 0;
  private final int[] candidate = new int[VARIABLES];

  public IndexTypeChecker(int programCap, int preCap) {
    this.programCap = clamp(programCap, LEAST_PROGRAM_CAP, GREATEST_PROGRAM_CAP);
    this.preCap = clamp(preCap, LEAST_PRE_CAP, GREATEST_PRE_CAP);
  }

  public boolean addPre(int x, int y, int c) {
    if (preCount >= preCap || !isSizeVariable(x) || !isSizeVariable(y) || !isConstant(c)) {
      return false;
    }
    preX[preCount] = x;
    preY[preCount] = y;
    preC[preCount] = c;
    preCount = preCount + 1;
    return true;
  }

  public void clearPre() {
    preCount = 0;
  }

  public boolean declare(int a, int lv, int lc) {
    if (!isArray(a) || !isSizeVariable(lv) || !isConstant(lc)) {
      return false;
    }
    lengthVariable[a] = lv;
    lengthConstant[a] = lc;
    return true;
  }

  public boolean emit(int op, int a, int v, int c) {
    if (programSize >= programCap || !mayAppend(op, a, v, c)) {
      return false;
    }
    opOf[programSize] = op;
    aOf[programSize] = a;
    vOf[programSize] = v;
    cOf[programSize] = c;
    partnerOf[programSize] = NONE;
    if (op == OP_LOOP || op == OP_IF) {
      openBlocks[openCount] = programSize;
      openCount = openCount + 1;
    } else if (op == OP_END) {
      closeInnermostBlock();
    }
    programSize = programSize + 1;
    return true;
  }

  public void clearProgram() {
    programSize = 0;
    openCount = 0;
  }

  public boolean setParam(int p, int value) {
    if (p == 0 || !isSizeVariable(p) || !isConstant(value)) {
      return false;
    }
    valueNow[p] = value;
    return true;
  }

  public boolean setCell(int a, int i, int value) {
    if (!isArray(a) || !isCellIndex(i)) {
      return false;
    }
    cells[a * CELLS + i] = value;
    return true;
  }

  public boolean consistent() {
    gatherPreconditions();
    return constraintsHaveSolution();
  }

  public boolean implies(int x, int y, int c) {
    if (!isSizeVariable(x) || !isSizeVariable(y) || !isConstant(c)) {
      return false;
    }
    gatherPreconditions();
    return constraintsEntail(x, y, c);
  }

  public int accessStatus(int k) {
    if (k < 0 || k >= programSize || !isAccess(opOf[k])) {
      return ST_NOT_ACCESS;
    }
    int a = aOf[k];
    int v = vOf[k];
    int c = cOf[k];
    gatherContext(k);
    boolean lower = constraintsEntail(0, v, c);
    boolean upper = constraintsEntail(v, lengthVariable[a], lengthConstant[a] - 1 - c);
    if (lower) {
      return upper ? ST_OK : ST_HIGH_FAIL;
    }
    return upper ? ST_LOW_FAIL : ST_BOTH_FAIL;
  }

  public int check() {
    if (openCount > 0) {
      return INCOMPLETE;
    }
    for (int k = 0; k < programSize; k++) {
      int status = accessStatus(k);
      if (status != ST_NOT_ACCESS && status != ST_OK) {
        return k;
      }
    }
    return ACCEPTED;
  }

  public int run(int fuel) {
    if (openCount > 0 || !parametersMeetPreconditions() || !lengthsFitCells()) {
      return RUN_REFUSED;
    }
    int limit = clamp(fuel, 0, MAX_FUEL);
    accumulator = 0;
    trapIndex = NONE;
    int pc = 0;
    for (int executed = 0; executed < limit && pc < programSize; executed++) {
      int next = execute(pc);
      if (next == NONE) {
        trapIndex = pc;
        return RUN_TRAP;
      }
      pc = next;
    }
    return pc == programSize ? RUN_DONE : RUN_OUT_OF_FUEL;
  }

  public int cell(int a, int i) {
    if (!isArray(a) || !isCellIndex(i)) {
      return 0;
    }
    return cells[a * CELLS + i];
  }

  public int acc() {
    return accumulator;
  }

  public int trapAt() {
    return trapIndex;
  }

  public int size() {
    return programSize;
  }

  private static int clamp(int value, int least, int greatest) {
    if (value < least) {
      return least;
    }
    return value > greatest ? greatest : value;
  }

  private static boolean isSizeVariable(int v) {
    return v >= 0 && v < FIRST_LOOP_VARIABLE;
  }

  private static boolean isLoopVariable(int v) {
    return v >= FIRST_LOOP_VARIABLE && v < VARIABLES;
  }

  private static boolean isConstant(int c) {
    return c >= -MAX_CONST && c <= MAX_CONST;
  }

  private static boolean isArray(int a) {
    return a >= 0 && a < ARRAYS;
  }

  private static boolean isCellIndex(int i) {
    return i >= 0 && i < CELLS;
  }

  private static boolean isAccess(int op) {
    return op == OP_LOAD || op == OP_ADD || op == OP_STORE;
  }

  private boolean mayAppend(int op, int a, int v, int c) {
    switch (op) {
      case OP_LOOP:
        return isLoopVariable(a) && !isOpenLoopVariable(a) && isBound(v) && isConstant(c);
      case OP_IF:
        return isBound(a) && isBound(v) && isConstant(c);
      case OP_END:
        return openCount > 0;
      case OP_SET:
        return isConstant(c);
      case OP_LOAD:
      case OP_ADD:
      case OP_STORE:
        return isArray(a) && isBound(v) && isConstant(c);
      default:
        return false;
    }
  }

  private boolean isBound(int v) {
    return isSizeVariable(v) || isOpenLoopVariable(v);
  }

  private boolean isOpenLoopVariable(int v) {
    for (int depth = 0; depth < openCount; depth++) {
      int opener = openBlocks[depth];
      if (opOf[opener] == OP_LOOP && aOf[opener] == v) {
        return true;
      }
    }
    return false;
  }

  private void closeInnermostBlock() {
    openCount = openCount - 1;
    int opener = openBlocks[openCount];
    partnerOf[opener] = programSize;
    partnerOf[programSize] = opener;
  }

  private void gatherPreconditions() {
    constraintCount = 0;
    for (int p = 0; p < preCount; p++) {
      addConstraint(preX[p], preY[p], preC[p]);
    }
  }

  private void gatherContext(int k) {
    gatherPreconditions();
    for (int j = 0; j < k; j++) {
      if (!encloses(j, k)) {
        continue;
      }
      if (opOf[j] == OP_LOOP) {
        addConstraint(0, aOf[j], 0);
        addConstraint(aOf[j], vOf[j], cOf[j] - 1);
      } else {
        addConstraint(aOf[j], vOf[j], cOf[j]);
      }
    }
  }

  private boolean encloses(int j, int k) {
    boolean opensBlock = opOf[j] == OP_LOOP || opOf[j] == OP_IF;
    return opensBlock && (partnerOf[j] == NONE || partnerOf[j] > k);
  }

  private void addConstraint(int x, int y, int c) {
    constraintX[constraintCount] = x;
    constraintY[constraintCount] = y;
    constraintC[constraintCount] = c;
    constraintCount = constraintCount + 1;
  }

  // The gathered constraints entail the goal exactly when they leave no room for its negation,
  // which over integers is y - x <= -d - 1, a difference constraint again.
  private boolean constraintsEntail(int x, int y, int d) {
    int gathered = constraintCount;
    addConstraint(y, x, -d - 1);
    boolean entailed = !constraintsHaveSolution();
    constraintCount = gathered;
    return entailed;
  }

  // Bellman-Ford from a source that reaches every variable at distance 0. If there is a
  // solution, VARIABLES - 1 rounds reach one, so a change in one round more means a negative
  // cycle. Only differences are constrained, so variable 0 needn't be held at 0 here: shifting
  // a solution brings it back.
  private boolean constraintsHaveSolution() {
    for (int v = 0; v < VARIABLES; v++) {
      candidate[v] = 0;
    }
    for (int round = 0; round < VARIABLES; round++) {
      if (!lowerCandidates()) {
        return true;
      }
    }
    return false;
  }

  private boolean lowerCandidates() {
    boolean changed = false;
    for (int q = 0; q < constraintCount; q++) {
      int most = candidate[constraintY[q]] + constraintC[q];
      if (candidate[constraintX[q]] > most) {
        candidate[constraintX[q]] = most;
        changed = true;
      }
    }
    return changed;
  }

  private boolean parametersMeetPreconditions() {
    for (int p = 0; p < preCount; p++) {
      if (valueNow[preX[p]] - valueNow[preY[p]] > preC[p]) {
        return false;
      }
    }
    return true;
  }

  private boolean lengthsFitCells() {
    for (int a = 0; a < ARRAYS; a++) {
      int length = lengthOf(a);
      if (length < 0 || length > CELLS) {
        return false;
      }
    }
    return true;
  }

  private int lengthOf(int a) {
    return valueNow[lengthVariable[a]] + lengthConstant[a];
  }

  // Answers the index of the next instruction, or NONE if this one trapped.
  private int execute(int pc) {
    switch (opOf[pc]) {
      case OP_LOOP:
        return enterLoop(pc);
      case OP_IF:
        return valueNow[aOf[pc]] - valueNow[vOf[pc]] <= cOf[pc] ? pc + 1 : partnerOf[pc] + 1;
      case OP_END:
        return leaveBlock(pc);
      case OP_SET:
        accumulator = cOf[pc];
        return pc + 1;
      default:
        return accessCell(pc);
    }
  }

  private int enterLoop(int pc) {
    int end = valueNow[vOf[pc]] + cOf[pc];
    if (end <= 0) {
      return partnerOf[pc] + 1;
    }
    loopEnd[aOf[pc]] = end;
    valueNow[aOf[pc]] = 0;
    return pc + 1;
  }

  private int leaveBlock(int pc) {
    int opener = partnerOf[pc];
    if (opOf[opener] == OP_IF) {
      return pc + 1;
    }
    int variable = aOf[opener];
    valueNow[variable] = valueNow[variable] + 1;
    return valueNow[variable] < loopEnd[variable] ? opener + 1 : pc + 1;
  }

  private int accessCell(int pc) {
    int a = aOf[pc];
    int subscript = valueNow[vOf[pc]] + cOf[pc];
    if (subscript < 0 || subscript >= lengthOf(a)) {
      return NONE;
    }
    int place = a * CELLS + subscript;
    if (opOf[pc] == OP_LOAD) {
      accumulator = cells[place];
    } else if (opOf[pc] == OP_ADD) {
      accumulator = accumulator + cells[place];
    } else {
      cells[place] = accumulator;
    }
    return pc + 1;
  }
}
