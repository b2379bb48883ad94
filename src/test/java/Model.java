import java.util.ArrayList;
import java.util.List;

/**
 * The document once more, in another way: nothing is kept that can be found by reading the program
 * again, and entailment is read off the closure of all paths.
 */
final class Model {
  private static final long FAR = Long.MAX_VALUE / 4;

  private final int programCap;
  private final int preCap;
  private final List<int[]> program = new ArrayList<>();
  private final List<int[]> pre = new ArrayList<>();
  private final int[][] length = new int[4][2];
  private final int[] param = new int[4];
  private final int[][] cells = new int[4][16];
  private int acc = 0;
  private int trapAt = -1;
  private int fuelLeft = 0;

  Model(int programCap, int preCap) {
    this.programCap = Math.max(8, Math.min(32, programCap));
    this.preCap = Math.max(4, Math.min(16, preCap));
  }

  private static boolean in(int value, int least, int greatest) {
    return least <= value && value <= greatest;
  }

  boolean addPre(int x, int y, int c) {
    boolean taken = pre.size() < preCap && in(x, 0, 3) && in(y, 0, 3) && in(c, -1000, 1000);
    return taken && pre.add(new int[] {x, y, c});
  }

  void clearPre() {
    pre.clear();
  }

  boolean declare(int a, int lv, int lc) {
    boolean taken = in(a, 0, 3) && in(lv, 0, 3) && in(lc, -1000, 1000);
    if (taken) {
      length[a] = new int[] {lv, lc};
    }
    return taken;
  }

  boolean emit(int op, int a, int v, int c) {
    boolean constant = in(c, -1000, 1000);
    boolean taken = switch (op) {
      case 1 -> in(a, 4, 7) && !bound(a) && bound(v) && constant;
      case 2 -> bound(a) && bound(v) && constant;
      case 3 -> !enclosing(program.size()).isEmpty();
      case 4 -> constant;
      case 5, 6, 7 -> in(a, 0, 3) && bound(v) && constant;
      default -> false;
    };
    return program.size() < programCap && taken && program.add(new int[] {op, a, v, c});
  }

  void clearProgram() {
    program.clear();
  }

  boolean setParam(int p, int value) {
    boolean taken = in(p, 1, 3) && in(value, -1000, 1000);
    if (taken) {
      param[p] = value;
    }
    return taken;
  }

  boolean setCell(int a, int i, int value) {
    boolean taken = in(a, 0, 3) && in(i, 0, 15);
    if (taken) {
      cells[a][i] = value;
    }
    return taken;
  }

  int cell(int a, int i) {
    return in(a, 0, 3) && in(i, 0, 15) ? cells[a][i] : 0;
  }

  int acc() {
    return acc;
  }

  int trapAt() {
    return trapAt;
  }

  int size() {
    return program.size();
  }

  boolean consistent() {
    return closure(pre) != null;
  }

  boolean implies(int x, int y, int c) {
    return in(x, 0, 3) && in(y, 0, 3) && in(c, -1000, 1000) && entails(closure(pre), x, y, c);
  }

  int accessStatus(int k) {
    if (!in(k, 0, program.size() - 1) || program.get(k)[0] < 5) {
      return 0;
    }
    int[] it = program.get(k);
    int[] term = length[it[1]];
    long[][] paths = closure(context(k));
    boolean lower = entails(paths, 0, it[2], it[3]);
    boolean upper = entails(paths, it[2], term[0], term[1] - 1 - it[3]);
    return 1 + (lower ? 0 : 1) + (upper ? 0 : 2);
  }

  int check() {
    if (!enclosing(program.size()).isEmpty()) {
      return -2;
    }
    for (int k = 0; k < program.size(); k++) {
      if (accessStatus(k) > 1) {
        return k;
      }
    }
    return -1;
  }

  int run(int fuel) {
    if (!enclosing(program.size()).isEmpty()) {
      return 3;
    }
    for (int[] one : pre) {
      if (param[one[0]] - param[one[1]] > one[2]) {
        return 3;
      }
    }
    for (int[] term : length) {
      if (!in(param[term[0]] + term[1], 0, 16)) {
        return 3;
      }
    }
    int[] value = new int[8];
    System.arraycopy(param, 0, value, 0, 4);
    acc = 0;
    trapAt = -1;
    fuelLeft = Math.max(0, Math.min(10000, fuel));
    return block(0, program.size(), value);
  }

  /** Runs the instructions from..to-1, which hold whole blocks only. */
  private int block(int from, int to, int[] value) {
    int pc = from;
    while (pc < to) {
      if (fuelLeft == 0) {
        return 2;
      }
      fuelLeft--;
      int[] it = program.get(pc);
      if (it[0] == 1 || it[0] == 2) {
        int last = matchingEnd(pc);
        int stop = it[0] == 1 ? loop(pc, last, value) : condition(pc, last, value);
        if (stop != 0) {
          return stop;
        }
        pc = last + 1;
        continue;
      }
      if (it[0] == 4) {
        acc = it[3];
      } else if (!access(it, value)) {
        trapAt = pc;
        return 1;
      }
      pc++;
    }
    return 0;
  }

  private int loop(int pc, int last, int[] value) {
    int[] it = program.get(pc);
    int times = value[it[2]] + it[3];
    for (int i = 0; i < times; i++) {
      value[it[1]] = i;
      int stop = bodyAndEnd(pc, last, value);
      if (stop != 0) {
        return stop;
      }
    }
    return 0;
  }

  private int condition(int pc, int last, int[] value) {
    int[] it = program.get(pc);
    return value[it[1]] - value[it[2]] <= it[3] ? bodyAndEnd(pc, last, value) : 0;
  }

  private int bodyAndEnd(int pc, int last, int[] value) {
    int stop = block(pc + 1, last, value);
    if (stop != 0) {
      return stop;
    }
    if (fuelLeft == 0) {
      return 2;
    }
    fuelLeft--;
    return 0;
  }

  private boolean access(int[] it, int[] value) {
    int[] term = length[it[1]];
    int s = value[it[2]] + it[3];
    if (!in(s, 0, param[term[0]] + term[1] - 1)) {
      return false;
    }
    switch (it[0]) {
      case 5 -> acc = cells[it[1]][s];
      case 6 -> acc += cells[it[1]][s];
      default -> cells[it[1]][s] = acc;
    }
    return true;
  }

  /** The size of the program if the block is open. */
  private int matchingEnd(int opener) {
    int depth = 0;
    for (int k = opener; k < program.size(); k++) {
      int op = program.get(k)[0];
      depth += op == 1 || op == 2 ? 1 : op == 3 ? -1 : 0;
      if (depth == 0) {
        return k;
      }
    }
    return program.size();
  }

  private List<Integer> enclosing(int k) {
    List<Integer> found = new ArrayList<>();
    for (int j = 0; j < k; j++) {
      int op = program.get(j)[0];
      if (op != 1 && op != 2) {
        continue;
      }
      int last = matchingEnd(j);
      if (last > k || last == program.size()) {
        found.add(j);
      }
    }
    return found;
  }

  private boolean bound(int v) {
    if (in(v, 0, 3)) {
      return true;
    }
    for (int j : enclosing(program.size())) {
      if (program.get(j)[0] == 1 && program.get(j)[1] == v) {
        return true;
      }
    }
    return false;
  }

  private List<int[]> context(int k) {
    List<int[]> set = new ArrayList<>(pre);
    for (int j : enclosing(k)) {
      int[] it = program.get(j);
      if (it[0] == 1) {
        set.add(new int[] {0, it[1], 0});
        set.add(new int[] {it[1], it[2], it[3] - 1});
      } else {
        set.add(new int[] {it[1], it[2], it[3]});
      }
    }
    return set;
  }

  /** The tightest bound of each difference (Floyd-Warshall), or null if there is no solution. */
  private static long[][] closure(List<int[]> set) {
    long[][] most = new long[8][8];
    for (int x = 0; x < 8; x++) {
      for (int y = 0; y < 8; y++) {
        most[x][y] = x == y ? 0 : FAR;
      }
    }
    for (int[] one : set) {
      most[one[0]][one[1]] = Math.min(most[one[0]][one[1]], one[2]);
    }
    for (int m = 0; m < 8; m++) {
      for (int x = 0; x < 8; x++) {
        for (int y = 0; y < 8; y++) {
          if (most[x][m] < FAR && most[m][y] < FAR) {
            most[x][y] = Math.min(most[x][y], most[x][m] + most[m][y]);
          }
        }
      }
    }
    for (int x = 0; x < 8; x++) {
      if (most[x][x] < 0) {
        return null;
      }
    }
    return most;
  }

  private static boolean entails(long[][] most, int x, int y, long d) {
    return most == null || most[x][y] <= d;
  }
}
