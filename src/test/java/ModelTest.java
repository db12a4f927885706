import java.math.BigInteger;
import java.util.Arrays;

/**
 * Many chains, each asked everything, against a second model that works another way: it inverts
 * (z - P) as polynomials in z by Faddeev and LeVerrier and looks at what comes for z near 1.
 */
public final class ModelTest {
  private static int wrong = 0;
  private static long seed = 20261115;

  /** A fraction in lowest terms; 1 / 0 for what is without bound. */
  private record Part(BigInteger top, BigInteger bottom) {
    static final Part ZERO = of(0, 1);
    static final Part ONE = of(1, 1);
    static final Part NO_BOUND = new Part(BigInteger.ONE, BigInteger.ZERO);

    static Part of(long top, long bottom) {
      return make(BigInteger.valueOf(top), BigInteger.valueOf(bottom));
    }

    static Part make(BigInteger top, BigInteger bottom) {
      BigInteger common = top.gcd(bottom);
      BigInteger divisor = bottom.signum() < 0 ? common.negate() : common;
      return new Part(top.divide(divisor), bottom.divide(divisor));
    }

    Part plus(Part o) {
      return make(top.multiply(o.bottom).add(o.top.multiply(bottom)), bottom.multiply(o.bottom));
    }

    Part times(Part o) {
      return make(top.multiply(o.top), bottom.multiply(o.bottom));
    }

    Part by(Part o) {
      return make(top.multiply(o.bottom), bottom.multiply(o.top));
    }

    boolean isZero() {
      return top.signum() == 0;
    }
  }

  /** The inverse of (z - P): numerators and the common denominator, by powers of (z - 1). */
  private static final class Resolvent {
    final Part[][][] tops;
    final Part[] bottom;

    Resolvent(Part[][] p) {
      int n = p.length;
      Part[][][] byPower = new Part[n][][];
      Part[] poly = new Part[n + 1];
      Arrays.fill(poly, Part.ZERO);
      poly[n] = Part.ONE;
      Part[][] m = zeros(n);
      for (int k = 1; k <= n; k++) {
        m = product(p, m);
        for (int i = 0; i < n; i++) {
          m[i][i] = m[i][i].plus(poly[n - k + 1]);
        }
        byPower[n - k] = m;
        Part[][] pm = product(p, m);
        Part trace = Part.ZERO;
        for (int i = 0; i < n; i++) {
          trace = trace.plus(pm[i][i]);
        }
        poly[n - k] = trace.times(Part.of(-1, k));
      }
      bottom = aroundOne(poly);
      tops = new Part[n][n][];
      for (int i = 0; i < n; i++) {
        for (int j = 0; j < n; j++) {
          Part[] entry = new Part[n];
          for (int k = 0; k < n; k++) {
            entry[k] = byPower[k][i][j];
          }
          tops[i][j] = aroundOne(entry);
        }
      }
    }

    /** The limit of (z - 1) to the given power, times the entry, for z falling to 1. */
    Part limit(int i, int j, int power) {
      int above = lowest(tops[i][j]);
      int below = lowest(bottom);
      if (above == tops[i][j].length || above + power > below) {
        return Part.ZERO;
      }
      if (above + power < below) {
        return Part.NO_BOUND;
      }
      return tops[i][j][above].by(bottom[below]);
    }

    private static int lowest(Part[] poly) {
      int k = 0;
      while (k < poly.length && poly[k].isZero()) {
        k++;
      }
      return k;
    }

    private static Part[] aroundOne(Part[] poly) {
      Part[] shifted = poly.clone();
      for (int done = 0; done < shifted.length; done++) {
        for (int k = shifted.length - 2; k >= done; k--) {
          shifted[k] = shifted[k].plus(shifted[k + 1]);
        }
      }
      return shifted;
    }
  }

  private static Part[][] zeros(int n) {
    Part[][] m = new Part[n][n];
    for (Part[] row : m) {
      Arrays.fill(row, Part.ZERO);
    }
    return m;
  }

  private static Part[][] product(Part[][] a, Part[][] b) {
    int n = a.length;
    Part[][] m = zeros(n);
    for (int i = 0; i < n; i++) {
      for (int k = 0; k < n; k++) {
        for (int j = 0; j < n; j++) {
          if (!a[i][k].isZero() && !b[k][j].isZero()) {
            m[i][j] = m[i][j].plus(a[i][k].times(b[k][j]));
          }
        }
      }
    }
    return m;
  }

  /** The chances of a step; from the states of 'ends' the walk goes nowhere else. */
  private static Part[][] chances(int[][] w, int ends) {
    int n = w.length;
    Part[][] p = zeros(n);
    for (int i = 0; i < n; i++) {
      int sum = Arrays.stream(w[i]).sum();
      if (sum == 0 || (ends >> i & 1) == 1) {
        p[i][i] = Part.ONE;
        continue;
      }
      for (int j = 0; j < n; j++) {
        p[i][j] = Part.of(w[i][j], sum);
      }
    }
    return p;
  }

  private static ChainWalks build(int[][] w) {
    ChainWalks x = new ChainWalks(w.length);
    for (int i = 0; i < w.length; i++) {
      for (int j = 0; j < w.length; j++) {
        x.set(i, j, random(10));
        x.set(i, j, w[i][j]);
      }
    }
    return x;
  }

  private static void due(int[][] w, String call, long got, long want) {
    if (got != want) {
      wrong++;
      System.out.println(Arrays.deepToString(w) + " " + call + " answered " + got + ", due is " + want);
    }
  }

  private static void due(int[][] w, String call, long top, long bottom, Part want) {
    due(w, call + " part 0", top, want.top().longValueExact());
    due(w, call + " part 1", bottom, want.bottom().longValueExact());
  }

  private static void checkWays(int[][] w) {
    int n = w.length;
    ChainWalks x = build(w);
    Part[][] p = chances(w, 0);
    boolean[][] can = new boolean[n][n];
    for (int i = 0; i < n; i++) {
      for (int j = 0; j < n; j++) {
        can[i][j] = i == j || !p[i][j].isZero();
      }
    }
    for (int k = 0; k < n; k++) {
      for (int i = 0; i < n; i++) {
        for (int j = 0; j < n; j++) {
          can[i][j] |= can[i][k] && can[k][j];
        }
      }
    }
    for (int i = 0; i < n; i++) {
      int reach = 0;
      int both = 0;
      for (int j = 0; j < n; j++) {
        reach |= can[i][j] ? 1 << j : 0;
        both |= can[i][j] && can[j][i] ? 1 << j : 0;
      }
      due(w, "reach " + i, x.reach(i), reach);
      due(w, "classOf " + i, x.classOf(i), both);
      due(w, "closed " + i, x.closed(i), reach == both ? 1 : 0);
      due(w, "period " + i, x.period(i), period(p, i));
      due(w, "trees " + i, x.trees(i), trees(w, i));
    }
    due(w, "reversible", x.reversible(), reversible(w) ? 1 : 0);
  }

  private static int period(Part[][] p, int i) {
    int n = p.length;
    boolean[] now = new boolean[n];
    now[i] = true;
    int common = 0;
    for (int length = 1; length <= 60; length++) {
      boolean[] next = new boolean[n];
      for (int a = 0; a < n; a++) {
        for (int b = 0; b < n; b++) {
          next[b] |= now[a] && !p[a][b].isZero();
        }
      }
      now = next;
      if (now[i]) {
        common = BigInteger.valueOf(common).gcd(BigInteger.valueOf(length)).intValue();
      }
    }
    return common;
  }

  /** Every way to choose, one by one. */
  private static long trees(int[][] w, int r) {
    int n = w.length;
    long sum = 0;
    int ways = (int) Math.pow(n, n);
    for (int way = 0; way < ways; way++) {
      int[] choice = new int[n];
      int rest = way;
      for (int i = 0; i < n; i++) {
        choice[i] = rest % n;
        rest /= n;
      }
      if (choice[r] == r) {
        sum += productOfTree(w, choice, r);
      }
    }
    return sum;
  }

  private static long productOfTree(int[][] w, int[] choice, int r) {
    long product = 1;
    for (int i = 0; i < choice.length; i++) {
      int at = i;
      for (int step = 0; step < choice.length; step++) {
        at = at == r ? r : choice[at];
      }
      if (at != r) {
        return 0;
      }
      product *= i == r ? 1 : w[i][choice[i]];
    }
    return product;
  }

  /** Kolmogorov: each ring of states has the same product of weights both ways round. */
  private static boolean reversible(int[][] w) {
    int n = w.length;
    for (int i = 0; i < n; i++) {
      for (int j = 0; j < n; j++) {
        if ((w[i][j] > 0) != (w[j][i] > 0)) {
          return false;
        }
      }
    }
    for (int start = 0; start < n; start++) {
      if (!ringsBalance(w, start, start, 1 << start, 1, 1)) {
        return false;
      }
    }
    return true;
  }

  private static boolean ringsBalance(int[][] w, int start, int at, int seen, long there, long back) {
    if (there * w[at][start] != back * w[start][at]) {
      return false;
    }
    for (int next = 0; next < w.length; next++) {
      if ((seen >> next & 1) == 0
          && !ringsBalance(w, start, next, seen | 1 << next, there * w[at][next], back * w[next][at])) {
        return false;
      }
    }
    return true;
  }

  private static void checkPairs(int[][] w) {
    int n = w.length;
    ChainWalks x = build(w);
    Part[][] p = chances(w, 0);
    Part[][] p2 = product(p, p);
    Resolvent resolvent = new Resolvent(p);
    for (int i = 0; i < n; i++) {
      for (int j = 0; j < n; j++) {
        String pair = " " + i + " " + j;
        due(w, "after 0" + pair, x.after(i, j, 0, 0), x.after(i, j, 0, 1), i == j ? Part.ONE : Part.ZERO);
        due(w, "after 1" + pair, x.after(i, j, 1, 0), x.after(i, j, 1, 1), p[i][j]);
        due(w, "after 2" + pair, x.after(i, j, 2, 0), x.after(i, j, 2, 1), p2[i][j]);
        due(w, "visits" + pair, x.visits(i, j, 0), x.visits(i, j, 1), resolvent.limit(i, j, 0));
        due(w, "share" + pair, x.share(i, j, 0), x.share(i, j, 1), resolvent.limit(i, j, 1));
      }
    }
  }

  private static void checkSets(int[][] w, int first, int other) {
    int n = w.length;
    ChainWalks x = build(w);
    Resolvent resolvent = new Resolvent(chances(w, first | other));
    for (int i = 0; i < n; i++) {
      Part chance = Part.ZERO;
      Part outside = Part.ZERO;
      for (int j = 0; j < n; j++) {
        if ((first >> j & 1) == 1) {
          chance = chance.plus(resolvent.limit(i, j, 1));
        } else if (outside != Part.NO_BOUND) {
          Part visits = resolvent.limit(i, j, 0);
          outside = visits == Part.NO_BOUND ? visits : outside.plus(visits);
        }
      }
      String sets = " " + i + " " + first;
      due(w, "before" + sets + " " + other,
          x.before(i, first, other, 0), x.before(i, first, other, 1), chance);
      if (other == 0) {
        due(w, "hit" + sets, x.hit(i, first, 0), x.hit(i, first, 1), chance);
        due(w, "time" + sets, x.time(i, first, 0), x.time(i, first, 1), outside);
      }
    }
  }

  private static void checkSwap(int[][] w) {
    int n = w.length;
    int a = random(n);
    int b = random(n);
    int[] old = new int[n];
    for (int i = 0; i < n; i++) {
      old[i] = i == a ? b : i == b ? a : i;
    }
    int[][] swapped = new int[n][n];
    for (int i = 0; i < n; i++) {
      for (int j = 0; j < n; j++) {
        swapped[i][j] = w[old[i]][old[j]];
      }
    }
    ChainWalks x = build(w);
    ChainWalks y = build(swapped);
    due(w, "swap " + a + " " + b, x.swap(a, b), 1);
    for (int i = 0; i < n; i++) {
      for (int j = 0; j < n; j++) {
        String pair = "swap " + a + " " + b + ", after " + i + " " + j;
        due(w, pair, x.after(i, j, 1, 0), y.after(i, j, 1, 0));
        due(w, pair, x.after(i, j, 1, 1), y.after(i, j, 1, 1));
      }
    }
    for (int i = 0; i < n; i++) {
      for (int j = 0; j < n; j++) {
        due(w, "swap " + a + " " + b + ", set " + i + " " + j, x.set(i, j, 0), swapped[i][j]);
      }
    }
  }

  private static int random(int bound) {
    seed = seed * 6364136223846793005L + 1442695040888963407L;
    return (int) ((seed >>> 33) % bound);
  }

  private static int[][] randomChain(int n, int tenths) {
    int[][] w = new int[n][n];
    for (int[] row : w) {
      for (int j = 0; j < n; j++) {
        row[j] = random(10) < tenths ? 1 + random(9) : 0;
      }
    }
    return w;
  }

  /** A reversible chain, or one that misses this in one weight. */
  private static int[][] nearlyReversible(int n) {
    int[][] w = new int[n][n];
    int[] scale = new int[n];
    for (int i = 0; i < n; i++) {
      scale[i] = 1 + random(3);
    }
    for (int i = 0; i < n; i++) {
      for (int j = 0; j <= i; j++) {
        int both = random(4);
        w[i][j] = both * scale[j];
        w[j][i] = both * scale[i];
      }
    }
    if (random(2) == 0) {
      w[random(n)][random(n)] = random(10);
    }
    return w;
  }

  private static int[][] chainOfDigits(int n, int number, int... digits) {
    int[][] w = new int[n][n];
    int rest = number;
    for (int cell = 0; cell < n * n; cell++) {
      w[cell / n][cell % n] = digits[rest % digits.length];
      rest /= digits.length;
    }
    return w;
  }

  private static void checkAll(int[][] w) {
    checkWays(w);
    checkPairs(w);
    checkSwap(w);
    int all = (1 << w.length) - 1;
    for (int first = 0; first <= all; first++) {
      checkSets(w, first, 0);
      checkSets(w, first, random(all + 1) & ~first);
    }
  }

  private static void heavyChains() {
    int[][] nines = new int[5][5];
    for (int[] row : nines) {
      Arrays.fill(row, 9);
    }
    checkAll(nines);
    // One rare step towards one end, many heavy ones away from it.
    int[][] uphill = {
        {9, 1, 0, 0, 0}, {9, 9, 1, 0, 0}, {9, 9, 9, 1, 0}, {9, 9, 9, 9, 1}, {9, 9, 9, 9, 9}};
    checkAll(uphill);
    for (int k = 0; k < 40; k++) {
      int[][] w = new int[5][5];
      for (int[] row : w) {
        for (int j = 0; j < 5; j++) {
          row[j] = 7 + random(3);
        }
      }
      checkAll(w);
    }
  }

  public static void main(String[] args) {
    for (int number = 0; number < 10; number++) {
      checkAll(chainOfDigits(1, number, 0, 1, 2, 3, 4, 5, 6, 7, 8, 9));
    }
    for (int number = 0; number < 256; number++) {
      checkAll(chainOfDigits(2, number, 0, 1, 4, 6));
    }
    for (int number = 0; number < 512; number++) {
      checkAll(chainOfDigits(3, number, 0, 1));
    }
    int[] densities = {1, 2, 3, 4, 6, 8, 10};
    for (int n = 2; n <= 5; n++) {
      for (int tenths : densities) {
        for (int k = 0; k < 30; k++) {
          checkAll(randomChain(n, tenths));
        }
      }
      for (int k = 0; k < 500; k++) {
        checkWays(nearlyReversible(n));
        checkWays(randomChain(n, 1 + random(10)));
      }
    }
    heavyChains();
    System.out.println(wrong == 0 ? "all answers are as due" : wrong + " answers are not as due");
    if (wrong != 0) {
      System.exit(1);
    }
  }
}
