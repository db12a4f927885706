import java.util.Arrays;

/** Each promise of the document by answers worked out by hand: ordinary inputs, edges, wrong inputs. */
public final class PromisesTest {
  private static final int MIN = Integer.MIN_VALUE;
  private static final int MAX = Integer.MAX_VALUE;
  private static int wrong = 0;

  private static void due(String what, long got, long want) {
    if (got != want) {
      wrong++;
      System.out.println(what + " answered " + got + ", due is " + want);
    }
  }

  private static void dueFraction(String what, long top, long bottom, long wantTop, long wantBottom) {
    due(what + " part 0", top, wantTop);
    due(what + " part 1", bottom, wantBottom);
  }

  private static void hit(ChainWalks x, int i, int set, long top, long bottom) {
    dueFraction("hit " + i + " " + set, x.hit(i, set, 0), x.hit(i, set, 1), top, bottom);
  }

  private static void before(ChainWalks x, int i, int first, int other, long top, long bottom) {
    dueFraction("before " + i + " " + first + " " + other,
        x.before(i, first, other, 0), x.before(i, first, other, 1), top, bottom);
  }

  private static void time(ChainWalks x, int i, int set, long top, long bottom) {
    dueFraction("time " + i + " " + set, x.time(i, set, 0), x.time(i, set, 1), top, bottom);
  }

  private static void visits(ChainWalks x, int i, int j, long top, long bottom) {
    dueFraction("visits " + i + " " + j, x.visits(i, j, 0), x.visits(i, j, 1), top, bottom);
  }

  private static void share(ChainWalks x, int i, int j, long top, long bottom) {
    dueFraction("share " + i + " " + j, x.share(i, j, 0), x.share(i, j, 1), top, bottom);
  }

  private static void after(ChainWalks x, int i, int j, int k, long top, long bottom) {
    dueFraction("after " + i + " " + j + " " + k, x.after(i, j, k, 0), x.after(i, j, k, 1), top, bottom);
  }

  /** A walk with the given weights, row by row. */
  private static ChainWalks walk(int... rows) {
    int n = (int) Math.round(Math.sqrt(rows.length));
    ChainWalks x = new ChainWalks(n);
    for (int cell = 0; cell < rows.length; cell++) {
      due("set at " + cell + " in " + Arrays.toString(rows), x.set(cell / n, cell % n, rows[cell]), 0);
    }
    return x;
  }

  /** All weights, told without changing them in the end. */
  private static int[] weights(ChainWalks x, int n) {
    int[] rows = new int[n * n];
    for (int cell = 0; cell < n * n; cell++) {
      rows[cell] = x.set(cell / n, cell % n, 0);
      x.set(cell / n, cell % n, rows[cell]);
    }
    return rows;
  }

  private static void dueWeights(String what, ChainWalks x, int... want) {
    int[] got = weights(x, (int) Math.round(Math.sqrt(want.length)));
    if (!Arrays.equals(got, want)) {
      wrong++;
      System.out.println(what + " left " + Arrays.toString(got) + ", due is " + Arrays.toString(want));
    }
  }

  /** The gambler between 0 and 4, who wins a step with the chance 1/3. */
  private static ChainWalks gambler() {
    return walk(
        0, 0, 0, 0, 0,
        2, 0, 1, 0, 0,
        0, 4, 0, 2, 0,
        0, 0, 6, 0, 3,
        0, 0, 0, 0, 7);
  }

  private static void promise1() {
    int[] asked = {MIN, -1, 0, 1, 2, 3, 4, 5, 6, MAX};
    int[] kept = {1, 1, 1, 1, 2, 3, 4, 5, 5, 5};
    for (int c = 0; c < asked.length; c++) {
      ChainWalks x = new ChainWalks(asked[c]);
      due("last state of " + asked[c], x.reach(kept[c] - 1), 1 << (kept[c] - 1));
      due("one state past those of " + asked[c], x.reach(kept[c]), -1);
      dueWeights("new " + asked[c], x, new int[kept[c] * kept[c]]);
    }
  }

  private static void promise2() {
    ChainWalks x = new ChainWalks(3);
    due("set", x.set(1, 2, 9), 0);
    due("set again", x.set(1, 2, 4), 9);
    due("set to the same", x.set(1, 2, 4), 4);
    due("set to 0", x.set(1, 2, 0), 4);
    due("set to itself", x.set(2, 2, 1), 0);
    due("other way round", x.set(2, 1, 3), 0);
    int[] states = {MIN, -1, 3, 5, MAX};
    for (int s : states) {
      due("set from " + s, x.set(s, 0, 1), -1);
      due("set to " + s, x.set(0, s, 1), -1);
      due("set from, with a wrong weight, " + s, x.set(s, 0, 10), -1);
      due("set to, with a wrong weight, " + s, x.set(0, s, -1), -1);
    }
    int[] heavy = {MIN, -1, 10, MAX};
    for (int w : heavy) {
      due("set weight " + w, x.set(2, 1, w), -4);
    }
    dueWeights("set", x, 0, 0, 0, 0, 0, 0, 0, 3, 1);

    // A weight set anew leaves no trace of the old one in the chances.
    ChainWalks anew = walk(0, 5, 0, 0);
    anew.set(0, 0, 7);
    anew.set(0, 0, 1);
    anew.set(0, 1, 2);
    after(anew, 0, 0, 1, 1, 3);
    after(anew, 0, 1, 1, 2, 3);
    anew.set(0, 0, 0);
    anew.set(0, 1, 0);
    after(anew, 0, 0, 1, 1, 1);
  }

  private static void promise3() {
    ChainWalks x = walk(
        1, 2, 3, 4,
        5, 6, 7, 8,
        9, 1, 2, 3,
        4, 5, 6, 0);
    due("swap", x.swap(0, 2), 1);
    dueWeights("swap 0 2", x, 2, 1, 9, 3, 7, 6, 5, 8, 3, 2, 1, 4, 6, 5, 4, 0);
    due("swap back", x.swap(2, 0), 1);
    dueWeights("swap 2 0", x, 1, 2, 3, 4, 5, 6, 7, 8, 9, 1, 2, 3, 4, 5, 6, 0);
    due("swap with itself", x.swap(3, 3), 1);
    due("swap from -1", x.swap(-1, 0), -1);
    due("swap to -1", x.swap(0, -1), -1);
    due("swap from 4", x.swap(4, 0), -1);
    due("swap to 4", x.swap(0, 4), -1);
    due("swap of no states", x.swap(MIN, MAX), -1);
    dueWeights("no swap", x, 1, 2, 3, 4, 5, 6, 7, 8, 9, 1, 2, 3, 4, 5, 6, 0);

    // A state that stays where it is takes this along, and the other one loses it.
    ChainWalks stays = walk(1, 3, 0, 0);
    stays.swap(0, 1);
    after(stays, 0, 0, 1, 1, 1);
    after(stays, 1, 0, 1, 3, 4);
    hit(stays, 0, 2, 0, 1);
  }

  private static void promises4to6() {
    ChainWalks x = walk(
        0, 1, 0, 0, 0,
        0, 0, 1, 0, 0,
        0, 1, 0, 1, 0,
        0, 0, 0, 0, 1,
        0, 0, 0, 1, 0);
    int[] reach = {31, 30, 30, 24, 24};
    int[] classes = {1, 6, 6, 24, 24};
    int[] closed = {0, 0, 0, 1, 1};
    for (int i = 0; i < 5; i++) {
      due("reach " + i, x.reach(i), reach[i]);
      due("classOf " + i, x.classOf(i), classes[i]);
      due("closed " + i, x.closed(i), closed[i]);
    }
    ChainWalks row = walk(
        0, 0, 0, 0, 0,
        1, 0, 0, 0, 0,
        0, 1, 0, 0, 0,
        0, 0, 1, 0, 0,
        0, 0, 0, 1, 0);
    for (int i = 0; i < 5; i++) {
      due("reach down " + i, row.reach(i), (2 << i) - 1);
      due("classOf down " + i, row.classOf(i), 1 << i);
      due("closed down " + i, row.closed(i), i == 0 ? 1 : 0);
    }
    int[] states = {MIN, -1, 5, MAX};
    for (int s : states) {
      due("reach " + s, x.reach(s), -1);
      due("classOf " + s, x.classOf(s), -1);
      due("closed " + s, x.closed(s), -1);
    }
    due("past the last of three", new ChainWalks(3).classOf(3), -1);
  }

  private static void promise7() {
    ChainWalks still = new ChainWalks(2);
    due("period of a state without weights", still.period(0), 1);
    still.set(0, 1, 1);
    due("period of a state never seen again", still.period(0), 0);
    due("period -1", still.period(-1), -1);
    due("period 2", still.period(2), -1);

    ChainWalks ring = walk(
        0, 1, 0, 0, 0,
        0, 0, 1, 0, 0,
        0, 0, 0, 1, 0,
        0, 0, 0, 0, 1,
        1, 0, 0, 0, 0);
    due("period of a ring of five", ring.period(3), 5);
    ring.set(3, 0, 1);
    due("period of rings of five and four", ring.period(4), 1);
    ring.set(3, 0, 0);
    ring.set(3, 2, 1);
    due("period of rings of five and two", ring.period(0), 1);
    ring.set(4, 0, 0);
    due("period inside", ring.period(2), 2);
    due("period ahead of it", ring.period(0), 0);

    ChainWalks four = walk(
        0, 1, 0, 0,
        0, 0, 1, 0,
        0, 0, 0, 1,
        1, 0, 0, 0);
    due("period of a ring of four", four.period(1), 4);
    four.set(1, 0, 9);
    due("period of rings of four and two", four.period(3), 2);
    four.set(2, 0, 1);
    due("period of rings of four, three and two", four.period(3), 1);
    // The shortest way that tells the period leads to a far loop and back.
    ChainWalks far = walk(
        0, 1, 0, 0, 0,
        1, 0, 1, 0, 0,
        0, 1, 0, 1, 0,
        0, 0, 1, 0, 1,
        0, 0, 0, 1, 0);
    due("period on a line", far.period(0), 2);
    far.set(4, 4, 1);
    due("period on a line with a loop at its end", far.period(0), 1);
  }

  private static void promise8() {
    ChainWalks x = gambler();
    hit(x, 0, 1, 1, 1);
    hit(x, 1, 1, 14, 15);
    hit(x, 2, 1, 4, 5);
    hit(x, 3, 1, 8, 15);
    hit(x, 4, 1, 0, 1);
    hit(x, 1, 16, 1, 15);
    hit(x, 2, 17, 1, 1);
    hit(x, 2, 0, 0, 1);
    hit(x, 2, 4, 1, 1);
    hit(x, 2, 31, 1, 1);
    hit(x, 1, 8, 1, 7);
    hit(x, 3, 10, 1, 1);
    wrongStateSetPart();
  }

  private static void wrongStateSetPart() {
    ChainWalks x = new ChainWalks(3);
    int[] states = {MIN, -1, 3, MAX};
    int[] sets = {MIN, -1, 8, 9, MAX};
    int[] parts = {MIN, -1, 2, MAX};
    for (int p : parts) {
      due("hit part " + p, x.hit(0, 1, p), -3);
      due("time part " + p, x.time(0, 1, p), -3);
      due("before part " + p, x.before(0, 1, 2, p), -3);
      due("before part and common state " + p, x.before(0, 1, 1, p), -3);
      due("visits part " + p, x.visits(0, 1, p), -3);
      due("share part " + p, x.share(0, 1, p), -3);
      due("after part " + p, x.after(0, 1, 1, p), -3);
      due("after part and steps " + p, x.after(0, 1, 3, p), -3);
      for (int set : sets) {
        due("hit set " + set, x.hit(0, set, p), -2);
        due("time set " + set, x.time(0, set, p), -2);
        due("before first " + set, x.before(0, set, 1, p), -2);
        due("before other " + set, x.before(0, 1, set, p), -2);
        due("before both " + set, x.before(0, set, set, p), -2);
        for (int s : states) {
          due("hit state " + s, x.hit(s, set, p), -1);
          due("time state " + s, x.time(s, set, p), -1);
          due("before state " + s, x.before(s, set, set, p), -1);
        }
      }
      for (int s : states) {
        due("visits from " + s, x.visits(s, 0, p), -1);
        due("visits to " + s, x.visits(0, s, p), -1);
        due("share from " + s, x.share(s, 0, p), -1);
        due("share to " + s, x.share(0, s, p), -1);
        due("after from " + s, x.after(s, 0, 3, p), -1);
        due("after to " + s, x.after(0, s, -1, p), -1);
      }
    }
    for (int set : sets) {
      due("hit set " + set, x.hit(0, set, 0), -2);
      due("time set " + set, x.time(0, set, 1), -2);
    }
    dueWeights("refused calls", x, new int[9]);
  }

  private static void promise9() {
    ChainWalks x = gambler();
    before(x, 2, 1, 16, 4, 5);
    before(x, 2, 16, 1, 1, 5);
    before(x, 2, 2, 8, 2, 3);
    before(x, 2, 8, 2, 1, 3);
    before(x, 3, 1, 4, 0, 1);
    before(x, 1, 1, 4, 2, 3);
    before(x, 2, 4, 27, 1, 1);
    before(x, 2, 27, 4, 0, 1);
    before(x, 2, 0, 4, 0, 1);
    before(x, 2, 0, 0, 0, 1);
    before(x, 1, 16, 0, 1, 15);
    before(x, 1, 17, 0, 1, 1);
    due("before with a common state", x.before(0, 3, 6, 0), -4);
    due("before with common states", x.before(0, 31, 31, 1), -4);
    // What comes after 'first' does not matter, even if it is 'other' for sure.
    before(walk(0, 1, 0, 0, 0, 1, 0, 0, 0), 0, 2, 4, 1, 1);
  }

  private static void promise10() {
    ChainWalks x = gambler();
    time(x, 2, 17, 18, 5);
    time(x, 1, 17, 11, 5);
    time(x, 3, 17, 17, 5);
    time(x, 0, 17, 0, 1);
    time(x, 2, 16, 1, 0);
    time(x, 2, 0, 1, 0);
    time(x, 4, 0, 1, 0);
    time(x, 2, 4, 0, 1);
    time(x, 2, 10, 1, 1);
    time(x, 4, 1, 1, 0);
    // A walk that can't get lost ahead of the set, though one from the set itself can.
    ChainWalks lost = walk(1, 1, 0, 0, 0, 1, 0, 0, 0);
    time(lost, 0, 2, 2, 1);
    time(lost, 2, 2, 1, 0);
    time(lost, 1, 1, 1, 0);
    // From state 2 one can come to the set but also get lost; from state 0 one can't come to 2.
    ChainWalks apart = walk(
        8, 1, 0, 0,
        0, 0, 0, 0,
        0, 1, 0, 1,
        0, 0, 0, 0);
    time(apart, 0, 2, 9, 1);
    time(apart, 2, 2, 1, 0);
    time(apart, 2, 10, 1, 1);
  }

  private static void promise11() {
    ChainWalks x = gambler();
    visits(x, 2, 2, 9, 5);
    visits(x, 1, 1, 7, 5);
    visits(x, 1, 2, 3, 5);
    visits(x, 1, 3, 1, 5);
    visits(x, 3, 1, 4, 5);
    visits(x, 2, 0, 1, 0);
    visits(x, 2, 4, 1, 0);
    visits(x, 0, 0, 1, 0);
    visits(x, 0, 4, 0, 1);
    visits(x, 0, 2, 0, 1);
    visits(x, 4, 3, 0, 1);
    ChainWalks leave = walk(9, 1, 0, 0);
    visits(leave, 0, 0, 10, 1);
    visits(leave, 1, 0, 0, 1);
    visits(leave, 0, 1, 1, 0);
    leave.set(0, 0, 0);
    visits(leave, 0, 0, 1, 1);
  }

  private static void promise12() {
    ChainWalks x = gambler();
    share(x, 2, 0, 4, 5);
    share(x, 2, 4, 1, 5);
    share(x, 2, 2, 0, 1);
    share(x, 0, 0, 1, 1);
    share(x, 0, 4, 0, 1);
    ChainWalks pair = walk(0, 1, 1, 0);
    share(pair, 0, 0, 1, 2);
    share(pair, 0, 1, 1, 2);
    pair.set(1, 1, 2);
    share(pair, 0, 0, 1, 4);
    share(pair, 1, 1, 3, 4);
    ChainWalks two = walk(
        2, 1, 0, 3, 0,
        0, 0, 9, 0, 0,
        0, 9, 9, 0, 0,
        0, 0, 0, 0, 0,
        5, 0, 0, 0, 5);
    share(two, 4, 1, 1, 12);
    share(two, 4, 2, 1, 6);
    share(two, 4, 3, 3, 4);
    share(two, 4, 4, 0, 1);
    share(two, 4, 0, 0, 1);
    share(two, 3, 1, 0, 1);
  }

  private static void promise13() {
    ChainWalks x = gambler();
    after(x, 2, 2, 0, 1, 1);
    after(x, 2, 1, 0, 0, 1);
    after(x, 2, 1, 1, 2, 3);
    after(x, 2, 3, 1, 1, 3);
    after(x, 2, 2, 1, 0, 1);
    after(x, 2, 2, 2, 4, 9);
    after(x, 2, 0, 2, 4, 9);
    after(x, 2, 4, 2, 1, 9);
    after(x, 2, 1, 2, 0, 1);
    after(x, 0, 0, 1, 1, 1);
    after(x, 0, 0, 2, 1, 1);
    after(x, 0, 1, 2, 0, 1);
    int[] steps = {MIN, -1, 3, MAX};
    for (int k : steps) {
      due("after steps " + k, x.after(2, 2, k, 0), -4);
      due("after steps " + k, x.after(2, 2, k, 1), -4);
    }
  }

  private static void promises14and16() {
    due("trees of one state", new ChainWalks(1).trees(0), 1);
    ChainWalks one = walk(7);
    due("trees of one state with a weight", one.trees(0), 1);
    due("trees of no state", one.trees(1), -1);
    due("trees of no state", one.trees(-1), -1);
    ChainWalks two = walk(5, 2, 3, 9);
    due("trees of two, 0", two.trees(0), 3);
    due("trees of two, 1", two.trees(1), 2);
    due("trees of state 2 of two", two.trees(2), -1);
    due("trees of two without weights", new ChainWalks(2).trees(0), 0);
    ChainWalks three = walk(1, 2, 3, 4, 5, 6, 7, 8, 9);
    due("trees of three, 0", three.trees(0), 4 * 7 + 4 * 8 + 6 * 7);
    due("trees of three, 1", three.trees(1), 2 * 7 + 2 * 8 + 3 * 8);
    due("trees of three, 2", three.trees(2), 2 * 6 + 3 * 4 + 3 * 6);
    int[] nines = new int[25];
    Arrays.fill(nines, 9);
    ChainWalks full = walk(nines);
    for (int r = 0; r < 5; r++) {
      due("trees of all weights 9, " + r, full.trees(r), 125L * 6561);
    }
    due("trees 5", full.trees(5), -1);
    // A state without weights can choose none, but can well be the one that all come to.
    ChainWalks x = gambler();
    due("trees of the gambler, 0", x.trees(0), 0);
    x.set(4, 3, 1);
    due("trees of the gambler who comes back, 0", x.trees(0), 2 * 4 * 6);
    due("trees of the gambler who comes back, 4", x.trees(4), 0);
  }

  private static void promise15() {
    due("one state", new ChainWalks(1).reversible(), 1);
    due("no weights", new ChainWalks(5).reversible(), 1);
    due("loops alone", walk(3, 0, 0, 9).reversible(), 1);
    due("one way", walk(0, 1, 0, 0).reversible(), 0);
    due("one way to a loop", walk(0, 0, 1, 1).reversible(), 0);
    due("any two", walk(0, 1, 9, 4).reversible(), 1);
    due("a line", walk(0, 1, 0, 5, 2, 7, 0, 3, 0).reversible(), 1);
    due("a ring one way", walk(0, 1, 0, 0, 0, 1, 1, 0, 0).reversible(), 0);
    due("a ring with a drift", walk(0, 2, 1, 1, 0, 2, 2, 1, 0).reversible(), 0);
    due("a ring without one", walk(0, 2, 3, 4, 0, 9, 2, 3, 1).reversible(), 1);
    due("two apart, one bad", walk(
        0, 1, 0, 0, 0,
        1, 0, 0, 0, 0,
        0, 0, 0, 1, 2,
        0, 0, 2, 0, 1,
        0, 0, 1, 2, 0).reversible(), 0);
    due("two apart, both good", walk(
        0, 0, 5, 0, 0,
        0, 0, 0, 1, 2,
        3, 0, 0, 0, 0,
        0, 2, 0, 0, 4,
        0, 2, 0, 2, 9).reversible(), 1);
    ChainWalks five = walk(
        0, 8, 0, 0, 3,
        4, 0, 6, 0, 0,
        0, 3, 0, 2, 0,
        0, 0, 1, 0, 9,
        8, 0, 0, 3, 0);
    due("a ring of five with a drift", five.reversible(), 0);
    five.set(4, 0, 1);
    five.set(0, 4, 8);
    due("a ring of five with a smaller one", five.reversible(), 0);
    five.set(0, 4, 9);
    five.set(0, 1, 1);
    five.set(1, 2, 1);
    five.set(2, 1, 1);
    five.set(2, 3, 3);
    five.set(1, 0, 1);
    due("a ring of five without one", five.reversible(), 1);
  }

  /** The calls that ask change nothing, whatever was asked before. */
  private static void asking() {
    int[] rows = {
        0, 1, 2, 0, 0,
        3, 0, 0, 4, 0,
        0, 0, 0, 5, 6,
        0, 0, 7, 0, 0,
        0, 0, 8, 0, 9};
    ChainWalks x = walk(rows);
    long first = answers(x);
    long second = answers(x);
    due("the same asked again", second, first);
    dueWeights("asking", x, rows);
  }

  private static long answers(ChainWalks x) {
    long sum = x.reversible();
    for (int i = 0; i < 5; i++) {
      sum = sum * 31 + x.reach(i);
      sum = sum * 31 + x.classOf(i);
      sum = sum * 31 + x.closed(i);
      sum = sum * 31 + x.period(i);
      sum = sum * 31 + x.trees(i);
      sum = sum * 31 + x.hit(i, 16, 0);
      sum = sum * 31 + x.before(i, 8, 16, 1);
      sum = sum * 31 + x.time(i, 12, 0);
      sum = sum * 31 + x.visits(i, 1, 0);
      sum = sum * 31 + x.share(i, 3, 1);
      sum = sum * 31 + x.after(i, 2, 2, 1);
    }
    return sum;
  }

  public static void main(String[] args) {
    promise1();
    promise2();
    promise3();
    promises4to6();
    promise7();
    promise8();
    promise9();
    promise10();
    promise11();
    promise12();
    promise13();
    promises14and16();
    promise15();
    asking();
    System.out.println(wrong == 0 ? "all answers are as due" : wrong + " answers are not as due");
    if (wrong != 0) {
      System.exit(1);
    }
  }
}
