import java.util.ArrayList;
import java.util.List;

/**
 * Long runs of mixed calls, right and wrong, on one object each, against what the words of the
 * document say when they are followed step by step: every walk is really gone along, for 2 to the
 * power of 60 steps. That tells the worth of a fraction only nearly; ModelTest tells it exactly.
 */
public final class RunsTest {
  private static final int MOST_CALLS = 512;
  private static final int DOUBLINGS = 60;
  private static final double ALL_STEPS = Math.pow(2, DOUBLINGS);
  // Far above every number that is bounded, far below what 2 to the power of 60 steps sum up to.
  private static final double NO_BOUND = 1e8;

  private static int wrong = 0;
  private static long seed = 8;

  private static int random(int bound) {
    seed = seed * 6364136223846793005L + 1442695040888963407L;
    return (int) ((seed >>> 33) % bound);
  }

  private static int oneOf(int... numbers) {
    return numbers[random(numbers.length)];
  }

  // ---- the walks of the document ----

  /** The chances of one step, and once the walk is in 'ends' it stays where it is. */
  private static double[][] chances(int[][] w, int ends) {
    int n = w.length;
    double[][] p = new double[n][n];
    for (int i = 0; i < n; i++) {
      int sum = 0;
      for (int weight : w[i]) {
        sum += weight;
      }
      for (int j = 0; j < n; j++) {
        boolean stays = sum == 0 || (ends >> i & 1) == 1;
        p[i][j] = stays ? (i == j ? 1 : 0) : (double) w[i][j] / sum;
      }
    }
    return p;
  }

  private static double[][] product(double[][] a, double[][] b) {
    int n = a.length;
    double[][] m = new double[n][n];
    for (int i = 0; i < n; i++) {
      for (int j = 0; j < n; j++) {
        for (int k = 0; k < n; k++) {
          m[i][j] += a[i][k] * b[k][j];
        }
      }
    }
    return m;
  }

  /** Where walks are after all steps, and how often they were in each state until then. */
  private static final class Walked {
    double[][] end;
    double[][] visits;

    Walked(double[][] p) {
      int n = p.length;
      end = p;
      visits = new double[n][n];
      for (int i = 0; i < n; i++) {
        visits[i][i] = 1;
      }
      for (int k = 0; k < DOUBLINGS; k++) {
        double[][] more = product(end, visits);
        for (int i = 0; i < n; i++) {
          for (int j = 0; j < n; j++) {
            visits[i][j] += more[i][j];
          }
        }
        end = product(end, end);
        sumToOne(end);
      }
    }

    /** Without this, the rounding would grow with the number of steps. */
    private static void sumToOne(double[][] m) {
      for (double[] row : m) {
        double sum = 0;
        for (double chance : row) {
          sum += chance;
        }
        for (int j = 0; j < row.length; j++) {
          row[j] /= sum;
        }
      }
    }

    double endIn(int i, int set) {
      double sum = 0;
      for (int j = 0; j < end.length; j++) {
        sum += (set >> j & 1) == 1 ? end[i][j] : 0;
      }
      return sum;
    }

    double stepsOutside(int i, int set) {
      double sum = 0;
      for (int j = 0; j < end.length; j++) {
        sum += (set >> j & 1) == 1 ? 0 : visits[i][j];
      }
      return bounded(sum);
    }

    static double bounded(double sum) {
      return sum > NO_BOUND ? Double.POSITIVE_INFINITY : sum;
    }
  }

  private static int reach(int[][] w, int i) {
    double[][] p = chances(w, 0);
    int found = 1 << i;
    for (int step = 0; step < 20; step++) {
      found |= next(p, found);
    }
    return found;
  }

  private static int next(double[][] p, int from) {
    int next = 0;
    for (int i = 0; i < p.length; i++) {
      for (int j = 0; j < p.length; j++) {
        next |= (from >> i & 1) == 1 && p[i][j] > 0 ? 1 << j : 0;
      }
    }
    return next;
  }

  private static int classOf(int[][] w, int i) {
    int found = 0;
    for (int j = 0; j < w.length; j++) {
      found |= (reach(w, i) >> j & reach(w, j) >> i & 1) << j;
    }
    return found;
  }

  private static int period(int[][] w, int i) {
    double[][] p = chances(w, 0);
    List<Integer> lengths = new ArrayList<>();
    int now = 1 << i;
    for (int length = 1; length <= 60; length++) {
      now = next(p, now);
      if ((now >> i & 1) == 1) {
        lengths.add(length);
      }
    }
    for (int greatest = 60; greatest >= 1 && !lengths.isEmpty(); greatest--) {
      int divisor = greatest;
      if (lengths.stream().allMatch(length -> length % divisor == 0)) {
        return divisor;
      }
    }
    return 0;
  }

  private static long trees(int[][] w, int[] choice, int state, int r) {
    int n = w.length;
    if (state == n) {
      return allComeTo(choice, r) ? 1 : 0;
    }
    if (state == r) {
      return trees(w, choice, state + 1, r);
    }
    long sum = 0;
    for (int other = 0; other < n; other++) {
      if (other != state) {
        choice[state] = other;
        sum += w[state][other] * trees(w, choice, state + 1, r);
      }
    }
    return sum;
  }

  private static boolean allComeTo(int[] choice, int r) {
    for (int i = 0; i < choice.length; i++) {
      int at = i;
      for (int step = 0; step < choice.length && at != r; step++) {
        at = choice[at];
      }
      if (at != r) {
        return false;
      }
    }
    return true;
  }

  /** Looks for f: begins with 1 in each state not yet tied, and follows every step from there. */
  private static int reversible(int[][] w) {
    double[][] p = chances(w, 0);
    int n = w.length;
    double[] f = new double[n];
    for (int start = 0; start < n; start++) {
      f[start] = f[start] == 0 ? 1 : f[start];
      for (int ij = 0; ij < n * n * n; ij++) {
        int i = ij / n % n;
        int j = ij % n;
        if (f[i] > 0 && f[j] == 0 && p[i][j] > 0 && p[j][i] > 0) {
          f[j] = f[i] * p[i][j] / p[j][i];
        }
      }
    }
    for (int i = 0; i < n; i++) {
      for (int j = 0; j < n; j++) {
        if (!near(f[i] * p[i][j], f[j] * p[j][i])) {
          return 0;
        }
      }
    }
    return 1;
  }

  private static boolean near(double one, double other) {
    return one == other || Math.abs(one - other) <= 1e-7 * Math.max(one, other) + 1e-10;
  }

  // ---- a run ----

  private final int n;
  private final ChainWalks x;
  private final int weightsAboveZero;
  private int[][] w;
  private int calls = 0;
  private String told = "";

  private RunsTest(int states, int weightsAboveZero) {
    n = Math.min(Math.max(states, 1), 5);
    x = new ChainWalks(states);
    w = new int[n][n];
    this.weightsAboveZero = weightsAboveZero;
  }

  private int state() {
    return random(25) > 0 ? random(n)
        : oneOf(-1, n, n + 1, 5, 32, Integer.MIN_VALUE, Integer.MAX_VALUE);
  }

  private int set() {
    return random(25) > 0 ? random(1 << n)
        : oneOf(-1, 1 << n, (1 << n) + 1, 32, 64, Integer.MIN_VALUE, Integer.MAX_VALUE);
  }

  private int part() {
    return random(25) > 0 ? random(2) : oneOf(-1, 2, 3, Integer.MIN_VALUE, Integer.MAX_VALUE);
  }

  private int weight() {
    int heavy = random(10) < weightsAboveZero ? 1 + random(9) : 0;
    return random(25) > 0 ? heavy : oneOf(-1, 10, 11, Integer.MIN_VALUE, Integer.MAX_VALUE);
  }

  private boolean isState(int i) {
    return i >= 0 && i < n;
  }

  private boolean isSet(int set) {
    return set >= 0 && set < 1 << n;
  }

  private static boolean isPart(int part) {
    return part == 0 || part == 1;
  }

  private void due(String call, long got, long want) {
    calls++;
    told += " " + call + "=" + got;
    if (got != want) {
      wrong++;
      System.out.println("states " + n + ":" + told + ", due is " + want);
    }
  }

  private void dueNearly(String call, long top, long bottom, double want) {
    calls += 2;
    told += " " + call + "=" + top + "/" + bottom;
    boolean unbound = want == Double.POSITIVE_INFINITY;
    boolean lowest = top >= 0 && bottom > 0 && commonDivisor(top, bottom) == 1;
    boolean right = unbound ? top == 1 && bottom == 0 : lowest && near((double) top / bottom, want);
    if (!right) {
      wrong++;
      System.out.println("states " + n + ":" + told + ", due is about " + want);
    }
  }

  private static long commonDivisor(long one, long other) {
    return other == 0 ? one : commonDivisor(other, one % other);
  }

  private void setWeight() {
    int i = state();
    int j = state();
    int weight = weight();
    boolean states = isState(i) && isState(j);
    boolean allowed = states && weight >= 0 && weight <= 9;
    due("set " + i + " " + j + " " + weight, x.set(i, j, weight), !states ? -1 : !allowed ? -4 : w[i][j]);
    if (allowed) {
      w[i][j] = weight;
    }
  }

  private void swap() {
    int i = state();
    int j = state();
    boolean states = isState(i) && isState(j);
    due("swap " + i + " " + j, x.swap(i, j), states ? 1 : -1);
    if (!states) {
      return;
    }
    int[][] renumbered = new int[n][n];
    for (int a = 0; a < n; a++) {
      for (int b = 0; b < n; b++) {
        renumbered[a == i ? j : a == j ? i : a][b == i ? j : b == j ? i : b] = w[a][b];
      }
    }
    w = renumbered;
  }

  private void askOfOneState() {
    int i = state();
    boolean no = !isState(i);
    due("reach " + i, x.reach(i), no ? -1 : reach(w, i));
    due("classOf " + i, x.classOf(i), no ? -1 : classOf(w, i));
    due("closed " + i, x.closed(i), no ? -1 : reach(w, i) == classOf(w, i) ? 1 : 0);
    due("period " + i, x.period(i), no ? -1 : period(w, i));
    due("trees " + i, x.trees(i), no ? -1 : trees(w, new int[n], 0, i));
    due("reversible", x.reversible(), reversible(w));
  }

  private void askOfSets() {
    int i = state();
    int first = set();
    int other = random(3) == 0 ? set() : set() & ~first;
    int part = part();
    int refused = !isState(i) ? -1 : !isSet(first) ? -2 : !isPart(part) ? -3 : 0;
    if (refused != 0) {
      due("hit " + i + " " + first + " " + part, x.hit(i, first, part), refused);
      due("time " + i + " " + first + " " + part, x.time(i, first, part), refused);
    } else {
      Walked walked = new Walked(chances(w, first));
      dueNearly("hit " + i + " " + first, x.hit(i, first, 0), x.hit(i, first, 1), walked.endIn(i, first));
      dueNearly("time " + i + " " + first, x.time(i, first, 0), x.time(i, first, 1),
          walked.stepsOutside(i, first));
    }
    refused = !isState(i) ? -1 : !isSet(first) || !isSet(other) ? -2 : !isPart(part) ? -3
        : (first & other) != 0 ? -4 : 0;
    String call = "before " + i + " " + first + " " + other;
    if (refused != 0) {
      due(call + " " + part, x.before(i, first, other, part), refused);
    } else {
      Walked walked = new Walked(chances(w, first | other));
      dueNearly(call, x.before(i, first, other, 0), x.before(i, first, other, 1), walked.endIn(i, first));
    }
  }

  private void askOfTwoStates() {
    int i = state();
    int j = state();
    int k = random(25) > 0 ? random(3) : oneOf(-1, 3, 4, Integer.MIN_VALUE, Integer.MAX_VALUE);
    int part = part();
    int refused = !isState(i) || !isState(j) ? -1 : !isPart(part) ? -3 : 0;
    String pair = " " + i + " " + j;
    if (refused != 0) {
      due("visits" + pair + " " + part, x.visits(i, j, part), refused);
      due("share" + pair + " " + part, x.share(i, j, part), refused);
    } else {
      Walked walked = new Walked(chances(w, 0));
      dueNearly("visits" + pair, x.visits(i, j, 0), x.visits(i, j, 1), Walked.bounded(walked.visits[i][j]));
      dueNearly("share" + pair, x.share(i, j, 0), x.share(i, j, 1), walked.visits[i][j] / ALL_STEPS);
    }
    refused = refused != 0 ? refused : k < 0 || k > 2 ? -4 : 0;
    if (refused != 0) {
      due("after" + pair + " " + k + " " + part, x.after(i, j, k, part), refused);
    } else {
      dueNearly("after" + pair + " " + k, x.after(i, j, k, 0), x.after(i, j, k, 1), chanceAfter(i, j, k));
    }
  }

  private double chanceAfter(int i, int j, int k) {
    double[][] p = chances(w, 0);
    double[][] where = new double[n][n];
    for (int s = 0; s < n; s++) {
      where[s][s] = 1;
    }
    for (int step = 0; step < k; step++) {
      where = product(where, p);
    }
    return where[i][j];
  }

  private void go() {
    while (calls <= MOST_CALLS - 6) {
      switch (random(8)) {
        case 0 -> askOfOneState();
        case 1 -> askOfSets();
        case 2 -> askOfTwoStates();
        case 3 -> swap();
        default -> setWeight();
      }
    }
  }

  public static void main(String[] args) {
    int runs = args.length > 0 ? Integer.parseInt(args[0]) : 60;
    for (int run = 0; run < runs && wrong == 0; run++) {
      int[] states = {5, 4, 3, 5, 2, 6, 4, 1, 5, 3, 0};
      new RunsTest(states[run % states.length], 1 + random(10)).go();
    }
    System.out.println(wrong == 0 ? "all runs are as due" : wrong + " answers are not as due");
    if (wrong != 0) {
      System.exit(1);
    }
  }
}
