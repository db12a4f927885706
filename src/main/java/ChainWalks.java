/**
 * Walks by chance among a few states, and exact answers: where they come, how soon, how often,
 * and where they stay in the long run.
 */
public final class ChainWalks {
  private static final int MOST_STATES = 5;
  private static final int MOST_PAIRS = 25;
  private static final int MOST_WEIGHT = 9;
  private static final int MOST_STEPS = 2;

  // A row of the system of equations: a factor for each state, then the right side.
  private static final int ROW = 6;
  private static final int RIGHT = 5;
  private static final int SYSTEM = 30;

  // From a state to a circle, once round it, and back takes at most 4 + 5 + 4 steps.
  private static final int LONGEST_ROUND = 13;

  // Euclid's rule on two long numbers needs fewer than a hundred divisions.
  private static final int MOST_DIVISIONS = 200;

  private static final int NO_STATE = -1;
  private static final int NO_SET = -2;
  private static final int NO_PART = -3;
  private static final int NOT_ALLOWED = -4;

  private final int n;
  private final int[] weights = new int[MOST_PAIRS];
  private final int[] sums = new int[MOST_STATES];
  private final long[] system = new long[SYSTEM];
  private final long[] over = new long[MOST_STATES];
  private final long[] under = new long[MOST_STATES];

  public ChainWalks(int states) {
    n = states < 1 ? 1 : states > MOST_STATES ? MOST_STATES : states;
  }

  public int set(int i, int j, int weight) {
    if (!isState(i) || !isState(j)) {
      return NO_STATE;
    }
    if (weight < 0 || weight > MOST_WEIGHT) {
      return NOT_ALLOWED;
    }
    int cell = i * MOST_STATES + j;
    int old = weights[cell];
    weights[cell] = weight;
    sums[i] += weight - old;
    return old;
  }

  public int swap(int i, int j) {
    if (!isState(i) || !isState(j)) {
      return NO_STATE;
    }
    for (int k = 0; k < n; k++) {
      exchangeWeights(i * MOST_STATES + k, j * MOST_STATES + k);
    }
    for (int k = 0; k < n; k++) {
      exchangeWeights(k * MOST_STATES + i, k * MOST_STATES + j);
    }
    int sum = sums[i];
    sums[i] = sums[j];
    sums[j] = sum;
    return 1;
  }

  public int reach(int i) {
    return isState(i) ? reachedFrom(i) : NO_STATE;
  }

  public int classOf(int i) {
    if (!isState(i)) {
      return NO_STATE;
    }
    int self = 1 << i;
    return reachedFrom(i) & (leadingTo(self, 0) | self);
  }

  public int closed(int i) {
    if (!isState(i)) {
      return NO_STATE;
    }
    return isInClosedClass(i) ? 1 : 0;
  }

  public int period(int i) {
    if (!isState(i)) {
      return NO_STATE;
    }
    long common = 0;
    int now = 1 << i;
    for (int length = 1; length <= LONGEST_ROUND; length++) {
      now = oneStepFrom(now);
      if (has(now, i)) {
        common = commonDivisor(common, length);
      }
    }
    return (int) common;
  }

  public long hit(int i, int set, int part) {
    int refused = refusal(i, i, set, part);
    if (refused != 0) {
      return refused;
    }
    solveChances(set, 0);
    return solved(i, part);
  }

  public long before(int i, int first, int other, int part) {
    // The two together are a set of these states only if each of them is.
    int refused = refusal(i, i, first | other, part);
    if (refused != 0) {
      return refused;
    }
    if ((first & other) != 0) {
      return NOT_ALLOWED;
    }
    solveChances(first, other);
    return solved(i, part);
  }

  public long time(int i, int set, int part) {
    int refused = refusal(i, i, set, part);
    if (refused != 0) {
      return refused;
    }
    solveChances(set, 0);
    if (system[i * ROW + RIGHT] != system[i * ROW + i]) {
      return partOf(1, 0, part);
    }
    solveTimes(set);
    return solved(i, part);
  }

  public long visits(int i, int j, int part) {
    int refused = refusal(i, j, 0, part);
    if (refused != 0) {
      return refused;
    }
    int reached = reachedFrom(i);
    if (!has(reached, j)) {
      return partOf(0, 1, part);
    }
    if (isInClosedClass(j)) {
      return partOf(1, 0, part);
    }
    solveVisits(j);
    return solved(i, part);
  }

  public long share(int i, int j, int part) {
    int refused = refusal(i, j, 0, part);
    if (refused != 0) {
      return refused;
    }
    if (!isInClosedClass(j)) {
      return partOf(0, 1, part);
    }
    solveChances(1 << j, 0);
    long chance = system[i * ROW + RIGHT];
    long sure = system[i * ROW + i];
    // Once at j, the walk is there once in as many steps as it needs on average to come back.
    solveTimes(1 << j);
    long oneStep = stepTotal(j) * system[j * ROW + j];
    long round = oneStep;
    for (int k = 0; k < n; k++) {
      round += stepWeight(j, k) * system[k * ROW + RIGHT];
    }
    return partOf(chance * oneStep, sure * round, part);
  }

  public long after(int i, int j, int k, int part) {
    int refused = refusal(i, j, 0, part);
    if (refused != 0) {
      return refused;
    }
    if (k < 0 || k > MOST_STEPS) {
      return NOT_ALLOWED;
    }
    if (k == 0) {
      return partOf(i == j ? 1 : 0, 1, part);
    }
    return k == 1 ? afterOne(i, j, part) : afterTwo(i, j, part);
  }

  public long trees(int r) {
    if (!isState(r)) {
      return NO_STATE;
    }
    int others = ((1 << n) - 1) & ~(1 << r);
    if (leadingTo(1 << r, 0) != others) {
      return 0;
    }
    // The matrix-tree theorem: the sum is the determinant of the equations of all other states.
    layOut(others);
    eliminate();
    return system[r * ROW + r];
  }

  public int reversible() {
    balanceNeighbours();
    for (int i = 0; i < n; i++) {
      for (int j = 0; j < i; j++) {
        long there = over[i] * under[j] * weights[i * MOST_STATES + j];
        long back = over[j] * under[i] * weights[j * MOST_STATES + i];
        if (there != back) {
          return 0;
        }
      }
    }
    return 1;
  }

  private boolean isState(int i) {
    return i >= 0 && i < n;
  }

  private int refusal(int i, int j, int set, int part) {
    if (!isState(i) || !isState(j)) {
      return NO_STATE;
    }
    if (set < 0 || set >= 1 << n) {
      return NO_SET;
    }
    return part == 0 || part == 1 ? 0 : NO_PART;
  }

  private void exchangeWeights(int cell, int otherCell) {
    int weight = weights[cell];
    weights[cell] = weights[otherCell];
    weights[otherCell] = weight;
  }

  // A state without weights stays where it is, as if it had the one weight 1 to itself.
  private int stepWeight(int i, int j) {
    if (sums[i] == 0) {
      return i == j ? 1 : 0;
    }
    return weights[i * MOST_STATES + j];
  }

  private int stepTotal(int i) {
    return sums[i] == 0 ? 1 : sums[i];
  }

  private static boolean has(int set, int i) {
    return (set >> i & 1) != 0;
  }

  private int oneStepFrom(int set) {
    int next = 0;
    for (int i = 0; i < n; i++) {
      for (int j = 0; j < n; j++) {
        if (has(set, i) && stepWeight(i, j) > 0) {
          next |= 1 << j;
        }
      }
    }
    return next;
  }

  private int reachedFrom(int i) {
    int found = 1 << i;
    for (int step = 1; step < n; step++) {
      found |= oneStepFrom(found);
    }
    return found;
  }

  /** The states outside both sets from which one can go to the goal through no barred state. */
  private int leadingTo(int goal, int barred) {
    int found = goal;
    for (int step = 1; step < n; step++) {
      for (int i = 0; i < n; i++) {
        int next = oneStepFrom(1 << i);
        if (!has(barred, i) && (next & found) != 0) {
          found |= 1 << i;
        }
      }
    }
    return found & ~goal;
  }

  private boolean isInClosedClass(int i) {
    int self = 1 << i;
    int others = reachedFrom(i) & ~self;
    return (others & ~leadingTo(self, 0)) == 0;
  }

  private long afterOne(int i, int j, int part) {
    long top = stepWeight(i, j);
    long bottom = stepTotal(i);
    return partOf(top, bottom, part);
  }

  private long afterTwo(int i, int j, int part) {
    long top = 0;
    long bottom = stepTotal(i);
    long scale = 1;
    for (int m = 0; m < n; m++) {
      int total = stepTotal(m);
      top = top * total + stepWeight(i, m) * stepWeight(m, j) * scale;
      scale *= total;
    }
    return partOf(top, bottom * scale, part);
  }

  /** Solves for the chances to come to the set 'first' and not to 'other' before. */
  private void solveChances(int first, int other) {
    int unknown = leadingTo(first, other);
    layOut(unknown);
    for (int i = 0; i < n; i++) {
      if (has(first, i)) {
        system[i * ROW + RIGHT] = 1;
      }
    }
    eliminate();
  }

  /** Solves for the expected steps to a set; right for the states that come to it for sure. */
  private void solveTimes(int set) {
    int unknown = leadingTo(set, 0);
    layOut(unknown);
    for (int i = 0; i < n; i++) {
      if (has(unknown, i)) {
        system[i * ROW + RIGHT] = stepTotal(i);
      }
    }
    eliminate();
  }

  /** Solves for the expected visits to a state whose class isn't closed. */
  private void solveVisits(int j) {
    int self = 1 << j;
    int unknown = leadingTo(self, 0) | self;
    layOut(unknown);
    system[j * ROW + RIGHT] = stepTotal(j);
    eliminate();
  }

  /**
   * Lays out one equation for each state, with 0 on the right: for an unknown state, its total
   * times its value less each weight times the value there; for a known one, its value alone.
   */
  private void layOut(int unknown) {
    for (int i = 0; i < n; i++) {
      boolean open = has(unknown, i);
      for (int j = 0; j < n; j++) {
        system[i * ROW + j] = open ? -stepWeight(i, j) : 0;
      }
      system[i * ROW + i] += open ? stepTotal(i) : 1;
      system[i * ROW + RIGHT] = 0;
    }
  }

  /**
   * Eliminates without fractions (Bareiss): in the end the determinant stands all along the
   * diagonal, and each right side is the value times the determinant. From every unknown state
   * one can go to a known one, hence no pivot is 0 and no rows need to change places. Taken as a
   * vector a row is shorter than 61 (36 and four times 9, and 45 on the right), so a determinant
   * of four rows is below 2 * 10^7 and one of five below 10^9 (Hadamard): long has room enough.
   */
  private void eliminate() {
    long divisor = 1;
    for (int k = 0; k < n; k++) {
      for (int i = 0; i < n; i++) {
        if (i != k) {
          clearFactor(i, k, divisor);
        }
      }
      divisor = system[k * ROW + k];
    }
  }

  private void clearFactor(int i, int k, long divisor) {
    if (divisor == 0) {
      return;  // Never so; the rule is to look at a divisor before it divides.
    }
    long pivot = system[k * ROW + k];
    long factor = system[i * ROW + k];
    // The columns of states that are not there hold zeros and stay so.
    for (int j = 0; j < ROW; j++) {
      long cross = pivot * system[i * ROW + j] - factor * system[k * ROW + j];
      system[i * ROW + j] = cross / divisor;
    }
  }

  private long solved(int i, int part) {
    return partOf(system[i * ROW + RIGHT], system[i * ROW + i], part);
  }

  /** A part of a fraction of numbers from 0 on, not both 0, in lowest terms. */
  private static long partOf(long top, long bottom, int part) {
    long told = part == 0 ? top : bottom;
    long common = commonDivisor(top, bottom);
    return common == 0 ? told : told / common;
  }

  private static long commonDivisor(long one, long other) {
    long greater = one;
    long smaller = other;
    for (int k = 0; k < MOST_DIVISIONS && smaller != 0; k++) {
      long rest = greater % smaller;
      greater = smaller;
      smaller = rest;
    }
    return greater;
  }

  /**
   * Gives each state i a fraction over[i] / under[i], f(i) by its total, such that the steps
   * there and back balance along enough pairs to tie together all states that steps join.
   */
  private void balanceNeighbours() {
    int known = 0;
    for (int start = 0; start < n; start++) {
      if (!has(known, start)) {
        over[start] = 1;
        under[start] = 1;
        known = balanceFrom(known | 1 << start);
      }
    }
  }

  private int balanceFrom(int balanced) {
    int known = balanced;
    for (int round = 1; round < n; round++) {
      for (int i = 0; i < n; i++) {
        for (int j = 0; j < n; j++) {
          int there = weights[i * MOST_STATES + j];
          int back = weights[j * MOST_STATES + i];
          if (has(known, i) && !has(known, j) && there > 0 && back > 0) {
            over[j] = over[i] * there;
            under[j] = under[i] * back;
            known |= 1 << j;
          }
        }
      }
    }
    return known;
  }
}
