import java.util.ArrayList;
import java.util.List;

/**
 * Promises 8 to 10 against a search: with small constants, constraints that have an integer
 * solution have one among small integers, so trying them all decides.
 */
public final class SolverTest {
  /** Constants of at most 2 on three edges, with a goal of at most 5 among them: 9 suffices. */
  private static final int REACH = 9;

  private static int consistentSets = 0;
  private static int contrarySets = 0;
  private static final int[] statuses = new int[5];

  public static void main(String[] args) {
    for (int seed = 1; seed <= 1500; seed++) {
      preconditions(new Numbers(seed));
    }
    for (int seed = 1; seed <= 3000; seed++) {
      contexts(new Numbers(seed));
    }
    Due.yes("both consistent and contrary sets were met", consistentSets > 100 && contrarySets > 100);
    for (int status = 1; status < 5; status++) {
      Due.yes("status " + status + " was met often", statuses[status] > 100);
    }
    Due.finish();
  }

  private static void preconditions(Numbers n) {
    IndexTypeChecker t = new IndexTypeChecker(8, 16);
    List<int[]> set = new ArrayList<>();
    int count = n.between(0, 7);
    for (int p = 0; p < count; p++) {
      int[] one = {n.between(0, 3), n.between(0, 3), n.between(-2, 2)};
      set.add(one);
      Due.yes("addPre", t.addPre(one[0], one[1], one[2]));
    }
    boolean solvable = solvable(set, 1, 2, 3);
    if (solvable) {
      consistentSets++;
    } else {
      contrarySets++;
    }
    Due.is("consistent() of " + show(set), t.consistent() ? 1 : 0, solvable ? 1 : 0);
    for (int q = 0; q < 4; q++) {
      int x = n.between(0, 3);
      int y = n.between(0, 3);
      int c = n.between(-4, 4);
      Due.is("implies(" + x + ", " + y + ", " + c + ") under " + show(set),
          t.implies(x, y, c) ? 1 : 0, entails(set, x, y, c, 1, 2, 3) ? 1 : 0);
    }
  }

  /** One parameter and two loop variables keep the search small. */
  private static void contexts(Numbers n) {
    IndexTypeChecker t = new IndexTypeChecker(32, 16);
    List<int[]> set = new ArrayList<>();
    int count = n.between(0, 2);
    for (int p = 0; p < count; p++) {
      int[] one = {n.oneOf(0, 1), n.oneOf(0, 1), n.between(-1, 2)};
      set.add(one);
      t.addPre(one[0], one[1], one[2]);
    }
    int lv = n.oneOf(0, 1);
    int lc = n.between(-1, 2);
    t.declare(2, lv, lc);
    loop(t, n, set, 5, n.oneOf(0, 1));
    condition(t, n, set, 0, 1, 5);
    loop(t, n, set, 7, n.oneOf(0, 1, 5));
    condition(t, n, set, 0, 1, 5, 7);
    condition(t, n, set, 0, 1, 5, 7);
    // Closed again at once, so it must not count.
    t.emit(2, 1, 1, -1);
    t.emit(3, 0, 0, 0);
    int v = n.oneOf(0, 1, 5, 7);
    int c = n.between(-1, 1);
    int k = t.size();
    Due.yes("emit LOAD", t.emit(5, 2, v, c));
    boolean lower = entails(set, 0, v, c, 1, 5, 7);
    boolean upper = entails(set, v, lv, lc - 1 - c, 1, 5, 7);
    int want = lower ? (upper ? 1 : 3) : (upper ? 2 : 4);
    statuses[want]++;
    Due.is("status of (" + v + ", " + c + ") in length (" + lv + ", " + lc + ") under " + show(set),
        t.accessStatus(k), want);
  }

  private static void loop(IndexTypeChecker t, Numbers n, List<int[]> set, int i, int v) {
    int c = n.between(-1, 3);
    Due.yes("emit LOOP", t.emit(1, i, v, c));
    set.add(new int[] {0, i, 0});
    set.add(new int[] {i, v, c - 1});
  }

  private static void condition(IndexTypeChecker t, Numbers n, List<int[]> set, int... bound) {
    if (n.oneIn(2)) {
      return;
    }
    int[] one = {n.oneOf(bound), n.oneOf(bound), n.between(-1, 2)};
    Due.yes("emit IF", t.emit(2, one[0], one[1], one[2]));
    set.add(one);
  }

  private static boolean entails(List<int[]> set, int x, int y, int d, int p, int q, int r) {
    List<int[]> with = new ArrayList<>(set);
    with.add(new int[] {y, x, -d - 1});
    return !solvable(with, p, q, r);
  }

  private static boolean solvable(List<int[]> set, int p, int q, int r) {
    int[] value = new int[8];
    for (value[p] = -REACH; value[p] <= REACH; value[p]++) {
      for (value[q] = -REACH; value[q] <= REACH; value[q]++) {
        for (value[r] = -REACH; value[r] <= REACH; value[r]++) {
          if (allHold(set, value)) {
            return true;
          }
        }
      }
    }
    return false;
  }

  private static boolean allHold(List<int[]> set, int[] value) {
    for (int[] one : set) {
      if (value[one[0]] - value[one[1]] > one[2]) {
        return false;
      }
    }
    return true;
  }

  private static String show(List<int[]> set) {
    StringBuilder text = new StringBuilder();
    for (int[] one : set) {
      text.append(one[0]).append('-').append(one[1]).append("<=").append(one[2]).append(' ');
    }
    return text.toString();
  }
}
