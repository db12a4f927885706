import java.util.ArrayList;
import java.util.HashMap;
import java.util.List;
import java.util.Map;

/**
 * Each sentence of the document that names a boundary case, by a test of its own, which begins
 * with the sentence. A run is a new object and rows of calls with the answers due; "w 01 20" sets
 * all weights, row by row, and an answer "a/b" stands for both parts of a fraction.
 */
public final class EdgesTest {
  private static final int MIN = Integer.MIN_VALUE;
  private static final int MAX = Integer.MAX_VALUE;
  private static final int MOST_CALLS = 512;
  private static final int REFUSED_NOWHERE = 0;

  private static int wrong = 0;
  private static String sentence = "";

  // ---- how calls are made and looked at ----

  /** An object, with its calls counted: an object of the document has no more than 512. */
  private static final class Walks {
    final ChainWalks object;
    final int states;
    int calls = 0;

    Walks(int states) {
      this.states = states;
      object = new ChainWalks(states);
    }

    long ask(String name, int... a) {
      calls++;
      if (calls > MOST_CALLS) {
        tell("the test makes more than 512 calls");
      }
      return switch (name) {
        case "set" -> object.set(a[0], a[1], a[2]);
        case "swap" -> object.swap(a[0], a[1]);
        case "reach" -> object.reach(a[0]);
        case "classOf" -> object.classOf(a[0]);
        case "closed" -> object.closed(a[0]);
        case "period" -> object.period(a[0]);
        case "hit" -> object.hit(a[0], a[1], a[2]);
        case "before" -> object.before(a[0], a[1], a[2], a[3]);
        case "time" -> object.time(a[0], a[1], a[2]);
        case "visits" -> object.visits(a[0], a[1], a[2]);
        case "share" -> object.share(a[0], a[1], a[2]);
        case "after" -> object.after(a[0], a[1], a[2], a[3]);
        case "trees" -> object.trees(a[0]);
        case "reversible" -> object.reversible();
        default -> throw new IllegalArgumentException(name);
      };
    }

    long ask(String call) {
      String[] words = call.split(" ");
      int[] arguments = new int[words.length - 1];
      for (int k = 0; k < arguments.length; k++) {
        arguments[k] = Integer.parseInt(words[k + 1]);
      }
      return ask(words[0], arguments);
    }

    void due(String call, long want) {
      long got = ask(call);
      if (got != want) {
        tell("states " + states + ": " + call + " answered " + got + ", due is " + want);
      }
    }

    /** An answer that is no refusal: all that are due here are 0 or more. */
    void allowed(String call) {
      long got = ask(call);
      if (got < 0) {
        tell("states " + states + ": " + call + " was refused with " + got);
      }
    }

    void row(String row) {
      if (row.startsWith("w ")) {
        weights(row.substring(2).split(" "));
        return;
      }
      String call = row.substring(0, row.indexOf(" = "));
      String[] answer = row.substring(row.indexOf(" = ") + 3).split("/");
      if (answer.length == 1) {
        due(call, Long.parseLong(answer[0]));
        return;
      }
      due(call + " 0", Long.parseLong(answer[0]));
      due(call + " 1", Long.parseLong(answer[1]));
    }

    void weights(String... rows) {
      for (int i = 0; i < rows.length; i++) {
        for (int j = 0; j < rows.length; j++) {
          ask("set", i, j, rows[i].charAt(j) - '0');
        }
      }
    }
  }

  private static void tell(String what) {
    wrong++;
    System.out.println("[" + sentence + "] " + what);
  }

  private static void run(int states, String... rows) {
    Walks x = new Walks(states);
    for (String row : rows) {
      x.row(row);
    }
  }

  /** Much that an object can be asked within its 512 calls, and in the end all its weights. */
  private static List<String> questions(int n) {
    List<String> calls = new ArrayList<>(List.of("reversible"));
    for (int i = 0; i < n; i++) {
      for (String name : List.of("reach ", "classOf ", "closed ", "period ", "trees ")) {
        calls.add(name + i);
      }
      for (int j = 0; j < n; j++) {
        int other = 1 << (j + 1) % n & ~(1 << j);
        for (int part = 0; part < 2; part++) {
          calls.add("hit " + i + " " + (1 << j) + " " + part);
          calls.add("time " + i + " " + (1 << j) + " " + part);
          calls.add("before " + i + " " + (1 << j) + " " + other + " " + part);
          calls.add("visits " + i + " " + j + " " + part);
          calls.add("share " + i + " " + j + " " + part);
          calls.add("after " + i + " " + j + " 1 " + part);
          calls.add("after " + i + " " + j + " 2 " + part);
        }
      }
    }
    for (int i = 0; i < n; i++) {
      for (int j = 0; j < n; j++) {
        calls.add("set " + i + " " + j + " 0");
      }
    }
    return calls;
  }

  /** Asks one object all questions; the answers due are those of objects asked one thing each. */
  private static void dueAsNew(Walks x, String... chain) {
    List<String> calls = questions(chain.length);
    List<Long> answers = ALONE.computeIfAbsent(String.join(" ", chain), EdgesTest::answersAlone);
    for (int k = 0; k < calls.size(); k++) {
      x.due(calls.get(k), answers.get(k));
    }
  }

  private static final Map<String, List<Long>> ALONE = new HashMap<>();

  private static List<Long> answersAlone(String chain) {
    String[] rows = chain.split(" ");
    List<Long> answers = new ArrayList<>();
    for (String call : questions(rows.length)) {
      Walks x = new Walks(rows.length);
      x.weights(rows);
      answers.add(x.ask(call));
    }
    return answers;
  }

  private static final String[][] CHAINS = {
      {"0"},
      {"7"},
      {"01", "20"},
      {"00", "30"},
      {"010", "203", "000"},
      {"123", "456", "789"},
      {"0120", "3004", "0000", "0056"},
      {"01000", "20300", "04050", "00607", "00009"},
      {"98765", "43219", "87654", "32198", "76543"}};

  /**
   * After the call each chain still answers as if it had never been called so. In the call, N
   * stands for the number of states, L for the last of them, and F for the first number that is
   * no set.
   */
  private static void changesNothing(String call, boolean refused) {
    for (String[] chain : CHAINS) {
      int n = chain.length;
      String here = call.replace("N", "" + n).replace("L", "" + (n - 1)).replace("F", "" + (1 << n));
      Walks x = new Walks(n);
      x.weights(chain);
      if (x.ask(here) < 0 != refused) {
        tell("states " + n + ": " + here + (refused ? " was not refused" : " was refused"));
      }
      int before = wrong;
      dueAsNew(x, chain);
      if (wrong > before) {
        tell(here + " changed something of " + String.join(" ", chain));
      }
    }
  }

  // ---- What it is ----

  private static void callsOnOneObject() {
    sentence = "An object is used for at most 512 calls after it has been made";
    Walks sets = new Walks(5);
    for (int call = 1; call <= MOST_CALLS; call++) {
      sets.due("set 4 4 " + call % 10, (call - 1) % 10);
    }
    Walks swaps = new Walks(2);
    swaps.row("set 0 1 9 = 0");
    for (int call = 2; call < MOST_CALLS; call++) {
      swaps.due("swap 0 1", 1);
    }
    swaps.row("set 0 1 3 = 9");
    Walks refusals = new Walks(3);
    refusals.row("w 010 101 000");
    while (refusals.calls < MOST_CALLS - 2) {
      refusals.due("set 0 3 9", -1);
    }
    refusals.row("time 0 4 = 4/1");
    // On a new object, and on one with weights: 0 is left for 1 or kept, 1 for 0 or 2.
    manyOf("swap 0 2", 1, 1);
    manyOf("reach 0", 1, 7);
    manyOf("classOf 0", 1, 3);
    manyOf("closed 0", 1, 0);
    manyOf("period 0", 1, 1);
    manyOf("hit 1 4 0", 0, 1);
    manyOf("before 1 4 1 1", 1, 7);
    manyOf("time 0 2 0", 1, 3);
    manyOf("visits 0 0 0", 1, 21);
    manyOf("share 0 2 0", 0, 1);
    manyOf("after 0 0 2 1", 1, 63);
    manyOf("trees 2", 0, 8);
    manyOf("reversible", 1, 0);
  }

  private static void manyOf(String call, long ofNew, long withWeights) {
    Walks x = new Walks(3);
    while (x.calls < MOST_CALLS) {
      x.due(call, ofNew);
    }
    Walks y = new Walks(3);
    y.weights("120", "304", "005");
    while (y.calls < MOST_CALLS) {
      y.due(call, withWeights);
    }
  }

  // ---- Terms ----

  /** Calls with %d for one state, all else being right for every number of states. */
  private static final String[] WITH_A_STATE = {
      "set %d 0 1", "set 0 %d 1", "swap %d 0", "swap 0 %d", "reach %d", "classOf %d", "closed %d",
      "period %d", "hit %d 1 0", "before %d 1 0 0", "time %d 1 0", "visits %d 0 0", "visits 0 %d 0",
      "share %d 0 0", "share 0 %d 0", "after %d 0 1 0", "after 0 %d 1 0", "trees %d"};

  private static void statesFromZero() {
    sentence = "There are n STATES, numbered from 0; a state that is not 0 to n - 1: -1";
    for (int n = 1; n <= 5; n++) {
      int[] no = {MIN, MIN + 1, -n, -1, n, n + 1, 5, 6, 32, n + 31, 256, 65536, MAX - 1, MAX};
      for (String call : WITH_A_STATE) {
        Walks x = new Walks(n);
        x.allowed(String.format(call, 0));
        x.allowed(String.format(call, n - 1));
        for (int state : no) {
          x.due(String.format(call, state), -1);
        }
      }
    }
  }

  private static void setsAsNumbers() {
    sentence = "a number that is no set of these states: -2";
    String[] calls = {
        "hit 0 %d 0", "time 0 %d 0", "before 0 %d 0 0", "before 0 0 %d 0"};
    for (int n = 1; n <= 5; n++) {
      int full = (1 << n) - 1;
      int[] no = {
          MIN, MIN + 1, MIN + full, -full, -1, full + 1, full + 2, 32, 33, 1 << 30, MAX - 1, MAX};
      for (String call : calls) {
        Walks x = new Walks(n);
        for (int set = 0; set <= full; set++) {
          x.allowed(String.format(call, set));
        }
        for (int set : no) {
          x.due(String.format(call, set), -2);
        }
      }
      Walks both = new Walks(n);
      // Two numbers that are no sets, with or without a state in common.
      both.due("before 0 -1 -1 0", -2);
      both.due("before 0 -1 " + (full + 1) + " 0", -2);
      both.due("before 0 " + (full + 1) + " " + (full + 1) + " 0", -2);
      both.due("before 0 " + MIN + " " + MAX + " 0", -2);
    }
  }

  private static void setDigits() {
    sentence = "A set of states is written as the number with the binary digit i for state i";
    for (int n = 1; n <= 5; n++) {
      Walks x = new Walks(n);
      for (int i = 0; i < n; i++) {
        x.due("reach " + i, 1 << i);
        x.due("classOf " + i, 1 << i);
        for (int j = 0; j < n; j++) {
          x.row("hit " + i + " " + (1 << j) + " = " + (i == j ? "1/1" : "0/1"));
        }
      }
    }
    // A ring: the full set, the greatest number that is told.
    run(5, "w 01000 00100 00010 00001 10000", "reach 0 = 31", "classOf 4 = 31", "hit 2 31 = 1/1");
  }

  private static void parts() {
    sentence = "a part that is not 0 or 1: -3";
    String[] calls = {
        "hit 0 1 %d", "before 0 1 0 %d", "time 0 1 %d", "visits 0 0 %d", "share 0 0 %d",
        "after 0 0 0 %d", "after 0 0 2 %d"};
    int[] no = {MIN, MIN + 1, -2, -1, 2, 3, 256, 257, 65536, 1 << 30, MAX - 1, MAX};
    for (int n = 1; n <= 5; n++) {
      for (String call : calls) {
        Walks x = new Walks(n);
        x.allowed(String.format(call, 0));
        x.allowed(String.format(call, 1));
        for (int part : no) {
          x.due(String.format(call, part), -3);
        }
      }
    }
  }

  private static void noWeightsAtAll() {
    sentence = "If W(i) is 0, a step from i leads to i for sure";
    run(3, staying("0"));
    // The same by the way of weights that were set and taken back.
    run(3, staying("0", "set 0 1 9 = 0", "set 0 2 1 = 0", "set 0 1 0 = 9", "set 0 2 0 = 1"));
    run(3, staying("0", "set 1 0 4 = 0", "swap 0 1 = 1", "set 0 1 0 = 4"));
    // A state other than the first, and one beside states with weights.
    run(3, staying("2", "set 0 1 5 = 0"));
    run(3, "set 0 1 1 = 0", "reach 0 = 3", "hit 0 2 = 1/1", "time 0 2 = 1/1", "visits 0 1 = 1/0",
        "share 0 1 = 1/1", "after 0 1 2 = 1/1", "closed 1 = 1", "period 1 = 1", "reversible = 0");
    // In trees only the weights count, and they are 0.
    run(2, "trees 0 = 0", "trees 1 = 0", "set 0 1 3 = 0", "trees 0 = 0", "trees 1 = 3");
  }

  /** What a state that stays where it is answers, behind some rows ahead. */
  private static String[] staying(String state, String... ahead) {
    int own = 1 << Integer.parseInt(state);
    int others = 7 & ~own;
    int other = others & -others;
    int number = Integer.numberOfTrailingZeros(other);
    List<String> rows = new ArrayList<>(List.of(ahead));
    rows.addAll(List.of(
        "reach S = " + own, "classOf S = " + own, "closed S = 1", "period S = 1",
        "hit S " + own + " = 1/1", "hit S " + others + " = 0/1",
        "before S " + own + " " + others + " = 1/1", "before S " + others + " " + own + " = 0/1",
        "before S " + other + " 0 = 0/1", "time S " + own + " = 0/1", "time S " + others + " = 1/0",
        "visits S S = 1/0", "visits S " + number + " = 0/1",
        "share S S = 1/1", "share S " + number + " = 0/1",
        "after S S 0 = 1/1", "after S S 1 = 1/1", "after S S 2 = 1/1",
        "after S " + number + " 1 = 0/1", "after S " + number + " 2 = 0/1"));
    return rows.stream().map(row -> row.replace("S", state)).toArray(String[]::new);
  }

  private static void chancesOfWeights() {
    sentence = "else a step from i leads to j with the chance w(i, j) / W(i)";
    // The least W above 0, by one weight to another state or to the state itself.
    run(2, "set 0 1 1 = 0", "after 0 0 1 = 0/1", "after 0 1 1 = 1/1");
    run(2, "set 0 0 1 = 0", "after 0 0 1 = 1/1", "after 0 1 1 = 0/1");
    // The greatest W, 45, and the least chance beside heavy weights.
    run(5, "w 99999 99999 99999 99999 99999", "after 0 0 1 = 1/5", "after 0 4 2 = 1/5");
    run(5, "w 19999 91999 99199 99919 99991", "after 0 0 1 = 1/37", "after 0 1 1 = 9/37",
        "after 0 0 2 = 325/1369");
    run(2, "w 91 19", "after 0 1 1 = 1/10", "after 0 1 2 = 9/50");
  }

  private static void canGo() {
    sentence = "One CAN go from i to j if there is a row of steps, or i is j";
    // 0 is left at once and never seen again, and yet one can go from 0 to 0.
    run(2, "set 0 1 1 = 0", "reach 0 = 3", "classOf 0 = 1", "closed 0 = 0", "reach 1 = 2");
    // The longest row that is needed, n - 1 steps, in both directions of the numbers.
    run(5, "w 01000 00100 00010 00001 00000", "reach 0 = 31", "reach 3 = 24", "reach 4 = 16");
    run(5, "w 00000 10000 01000 00100 00010", "reach 4 = 31", "reach 1 = 3", "reach 0 = 1");
    // A weight that was taken away again is no step.
    run(3, "set 0 1 9 = 0", "set 1 2 1 = 0", "reach 0 = 7", "set 1 2 0 = 1", "reach 0 = 3");
  }

  private static void oneClass() {
    sentence = "States i and j are in one CLASS if one can go from each to the other";
    run(2, "set 0 1 1 = 0", "classOf 0 = 1", "classOf 1 = 2", "set 1 0 1 = 0", "classOf 0 = 3",
        "classOf 1 = 3");
    run(1, "classOf 0 = 1");
    // All states by one ring, and one step of it missing.
    run(5, "w 00001 10000 01000 00100 00010", "classOf 0 = 31", "classOf 3 = 31", "set 0 4 0 = 1",
        "classOf 0 = 1", "classOf 3 = 8", "classOf 4 = 16");
  }

  private static void closedClass() {
    sentence = "A class is CLOSED if from its states one can go to no others";
    run(1, "closed 0 = 1", "set 0 0 9 = 0", "closed 0 = 1");
    run(5, "w 01000 00100 00010 00001 10000", "closed 0 = 1", "closed 4 = 1");
    // One leak, at another state of the class than the one asked, makes it not closed.
    run(4, "w 0100 0010 1000 0000", "closed 0 = 1", "closed 1 = 1", "closed 2 = 1", "closed 3 = 1",
        "set 2 3 1 = 0", "closed 0 = 0", "closed 1 = 0", "closed 2 = 0", "closed 3 = 1",
        "set 3 0 1 = 0", "closed 0 = 1", "closed 3 = 1");
    // What comes in from outside does not matter.
    run(2, "w 11 00", "closed 0 = 0", "closed 1 = 1");
  }

  private static void lowestTerms() {
    sentence = "in lowest terms, the denominator above 0";
    run(3, "w 000 630 099", "after 1 0 1 = 2/3", "after 1 1 1 = 1/3", "after 1 0 2 = 8/9",
        "hit 1 1 = 1/1", "before 1 1 4 = 1/1", "time 1 1 = 3/2", "time 2 1 = 7/2",
        "visits 1 1 = 3/2", "visits 2 1 = 3/2", "visits 2 2 = 2/1", "share 2 0 = 1/1");
    run(2, "w 06 93", "share 0 0 = 3/7", "set 0 0 6 = 0", "share 0 0 = 3/5", "share 1 1 = 2/5");
    run(3, "w 000 402 000", "hit 1 1 = 2/3", "before 1 4 1 = 1/3", "share 1 2 = 1/3");
    // Whole numbers are over 1.
    run(2, "w 22 00", "time 0 2 = 2/1", "visits 0 0 = 2/1");
  }

  private static void zeroIsOverOne() {
    sentence = "zero is 0 / 1";
    run(2, "w 91 08", "hit 1 1 = 0/1", "before 1 1 0 = 0/1", "before 0 2 1 = 0/1", "time 0 1 = 0/1",
        "visits 1 0 = 0/1", "share 0 0 = 0/1", "share 1 0 = 0/1", "after 1 0 0 = 0/1",
        "after 1 0 1 = 0/1", "after 1 0 2 = 0/1");
  }

  private static void withoutBound() {
    sentence = "what is without bound is 1 / 0";
    run(2, "w 91 08", "time 1 1 = 1/0", "time 0 0 = 1/0", "visits 0 1 = 1/0", "visits 1 1 = 1/0");
    run(1, "time 0 0 = 1/0", "visits 0 0 = 1/0", "set 0 0 9 = 0", "time 0 0 = 1/0",
        "visits 0 0 = 1/0");
  }

  private static void refusedCalls() {
    sentence = "A refused call changes nothing";
    String[] refused = {
        "set -1 0 9", "set N 0 9", "set 0 -1 9", "set 0 N 9", "set L -1 9", "set L N 9", "set N L 9",
        "set 2147483647 0 1", "set 0 -2147483648 1", "set 0 0 -1", "set 0 0 10", "set L L 2147483647",
        "set L L -2147483648", "set 0 L 256", "set -1 -1 10", "set N N 10",
        "swap -1 0", "swap L -1", "swap N 0", "swap L N", "swap N -1", "swap -2147483648 2147483647",
        "reach -1", "reach N", "classOf -1", "classOf N", "closed -1", "closed N", "period -1",
        "period N", "trees -1", "trees N",
        "hit N 1 0", "hit 0 F 0", "hit L -1 0", "hit 0 1 2", "hit -1 -1 -1",
        "time N 1 0", "time 0 F 0", "time L -1 0", "time 0 1 2", "time -1 -1 -1",
        "before N 1 0 0", "before 0 F 1 0", "before L 1 -1 0", "before 0 1 0 2", "before 0 1 1 0",
        "before 0 1 1 2", "before -1 -1 -1 -1",
        "visits N 0 0", "visits L -1 0", "visits 0 0 2", "visits N N 5",
        "share N 0 0", "share L -1 0", "share 0 0 2", "share N N 5",
        "after N 0 0 0", "after L -1 0 0", "after 0 0 0 2", "after 0 0 3 0", "after L 0 -1 0",
        "after N N 5 5"};
    for (String call : refused) {
      changesNothing(call, true);
    }
    // States that only a wider object has: not to be set ahead of time nor to be mixed in.
    run(2, "set 0 1 3 = 0", "set 0 2 9 = -1", "set 2 0 9 = -1", "set 1 2 9 = -1", "swap 1 2 = -1",
        "swap 2 0 = -1", "after 0 1 1 = 1/1", "after 1 1 1 = 1/1", "set 0 1 3 = 3");
    // Refused weights between right ones: the answer is the last weight that was set.
    run(1, "set 0 0 4 = 0", "set 0 0 10 = -4", "set 0 0 5 = 4", "set 0 0 -1 = -4", "set 1 0 9 = -1",
        "set 0 1 9 = -1", "set 0 0 0 = 5");
  }

  private static void askingCalls() {
    sentence = "The calls below change nothing";
    String[] asked = {
        "reach 0", "reach L", "classOf 0", "classOf L", "closed 0", "closed L", "period 0", "period L",
        "hit 0 1 0", "hit L 0 1", "hit L 1 1", "before 0 1 0 0", "before L 0 1 1", "time 0 1 0",
        "time L 0 1", "time L 1 0", "visits 0 0 0", "visits L 0 1", "visits 0 L 0", "share 0 0 0",
        "share L 0 1", "share 0 L 0", "after 0 0 0 0", "after 0 L 1 1", "after L 0 2 0", "trees 0",
        "trees L", "reversible"};
    for (String call : asked) {
      changesNothing(call, false);
    }
  }

  /** The first of the tests that does not hold, in the order in which the document names them. */
  private static long firstRefusal(long... tests) {
    for (long test : tests) {
      if (test != REFUSED_NOWHERE) {
        return test;
      }
    }
    return REFUSED_NOWHERE;
  }

  private static long ifNot(boolean holds, long refusal) {
    return holds ? REFUSED_NOWHERE : refusal;
  }

  private static boolean within(int value, int least, int most) {
    return least <= value && value <= most;
  }

  private static void dueOrAllowed(Walks x, String call, long refusal) {
    if (refusal == REFUSED_NOWHERE) {
      x.allowed(call);
    } else {
      x.due(call, refusal);
    }
  }

  /** All ways to join right and wrong arguments, each on the edge. */
  private static void orderOfTests() {
    sentence = "The tests of a call are made in the order in which they are named";
    for (int n = 1; n <= 5; n++) {
      int[] states = {-1, 0, n - 1, n};
      for (int i : states) {
        for (int j : states) {
          long noState = ifNot(within(i, 0, n - 1) && within(j, 0, n - 1), -1);
          dueOrAllowed(new Walks(n), "swap " + i + " " + j, noState);
          orderInSet(n, i, j, noState);
          orderInPairs(n, i, j, noState);
        }
        orderWithSets(n, i, ifNot(within(i, 0, n - 1), -1));
      }
    }
    // Several wrong arguments at once, told one by one.
    run(3, "set 3 0 10 = -1", "set 0 3 10 = -1", "set 0 0 10 = -4", "hit 3 8 2 = -1",
        "hit 0 8 2 = -2", "hit 0 7 2 = -3", "time -1 -1 -1 = -1", "time 0 -1 -1 = -2",
        "time 0 0 -1 = -3", "before 3 8 8 2 = -1", "before 0 8 8 2 = -2", "before 0 8 7 2 = -2",
        "before 0 7 8 2 = -2", "before 0 7 7 2 = -3", "before 0 7 7 1 = -4", "visits 3 0 2 = -1",
        "visits 0 3 2 = -1", "visits 0 0 2 = -3", "share 3 0 2 = -1", "share 0 3 2 = -1",
        "share 0 0 2 = -3", "after 3 0 3 2 = -1", "after 0 3 3 2 = -1", "after 0 0 3 2 = -3",
        "after 0 0 3 1 = -4", "set 0 0 9 = 0");
  }

  private static void orderInSet(int n, int i, int j, long noState) {
    for (int weight : new int[] {MIN, -1, 0, 9, 10, MAX}) {
      long refusal = firstRefusal(noState, ifNot(within(weight, 0, 9), -4));
      dueOrAllowed(new Walks(n), "set " + i + " " + j + " " + weight, refusal);
    }
  }

  private static void orderInPairs(int n, int i, int j, long noState) {
    Walks x = new Walks(n);
    for (int part : new int[] {MIN, -1, 0, 1, 2, MAX}) {
      long noPart = ifNot(within(part, 0, 1), -3);
      dueOrAllowed(x, "visits " + i + " " + j + " " + part, firstRefusal(noState, noPart));
      dueOrAllowed(x, "share " + i + " " + j + " " + part, firstRefusal(noState, noPart));
      for (int k : new int[] {MIN, -1, 0, 1, 2, 3, MAX}) {
        long refusal = firstRefusal(noState, noPart, ifNot(within(k, 0, 2), -4));
        dueOrAllowed(x, "after " + i + " " + j + " " + k + " " + part, refusal);
      }
    }
  }

  private static void orderWithSets(int n, int i, long noState) {
    int full = (1 << n) - 1;
    int[] sets = {MIN, -1, 0, 1, full, full + 1, MAX};
    Walks x = new Walks(n);
    for (int part = -1; part <= 2; part++) {
      long noPart = ifNot(within(part, 0, 1), -3);
      for (int first : sets) {
        long noSet = ifNot(within(first, 0, full), -2);
        dueOrAllowed(x, "hit " + i + " " + first + " " + part, firstRefusal(noState, noSet, noPart));
        dueOrAllowed(x, "time " + i + " " + first + " " + part, firstRefusal(noState, noSet, noPart));
        for (int other : sets) {
          long noOther = ifNot(within(other, 0, full), -2);
          long common = ifNot((first & other) == 0, -4);
          dueOrAllowed(x, "before " + i + " " + first + " " + other + " " + part,
              firstRefusal(noState, noSet, noOther, noPart, common));
        }
      }
    }
  }

  // ---- Promises 1 to 3 ----

  private static void clampedStates() {
    sentence = "n is 'states' clamped into 1 to 5 (below 1 becomes 1, above 5 becomes 5)";
    int[] asked = {MIN, MIN + 1, -5, -1, 0, 1, 2, 3, 4, 5, 6, 7, 32, 256, 257, MAX - 1, MAX};
    int[] kept = {1, 1, 1, 1, 1, 1, 2, 3, 4, 5, 5, 5, 5, 5, 5, 5, 5};
    for (int c = 0; c < asked.length; c++) {
      int n = kept[c];
      int last = n - 1;
      Walks x = new Walks(asked[c]);
      x.due("reach " + last, 1 << last);
      x.due("reach " + n, -1);
      x.due("set " + last + " " + last + " 9", 0);
      x.due("set " + n + " 0 9", -1);
      x.due("set 0 " + n + " 9", -1);
      x.due("swap 0 " + last, 1);
      x.due("swap 0 " + n, -1);
      x.due("set 0 0 0", 9);
      x.due("hit 0 " + ((1 << n) - 1) + " 0", 1);
      x.due("hit 0 " + (1 << n) + " 0", -2);
      x.due("trees 0", n == 1 ? 1 : 0);
    }
  }

  private static void weightsAtFirst() {
    sentence = "a WEIGHT w(i, j), a whole number from 0 to 9, at first 0";
    for (int n = 1; n <= 5; n++) {
      Walks x = new Walks(n);
      for (int i = 0; i < n; i++) {
        for (int j = 0; j < n; j++) {
          // Each pair has a weight of its own, i = j too, which the others leave alone.
          x.due("set " + i + " " + j + " " + (i * n + j) % 10, 0);
        }
      }
      for (int i = 0; i < n; i++) {
        for (int j = 0; j < n; j++) {
          x.due("set " + i + " " + j + " 9", (i * n + j) % 10);
        }
      }
    }
  }

  private static void weightsAllowed() {
    sentence = "Sets w(i, j). weight is not 0 to 9: -4. Else answers the weight before";
    run(2, "set 0 1 0 = 0", "set 0 1 9 = 0", "set 0 1 9 = 9", "set 0 1 10 = -4", "set 0 1 0 = 9",
        "set 0 1 -1 = -4", "set 0 1 1 = 0", "set 0 1 8 = 1", "set 0 1 11 = -4", "set 0 1 256 = -4",
        "set 0 1 65536 = -4", "set 0 1 2147483647 = -4", "set 0 1 -2147483648 = -4",
        "set 0 1 -9 = -4", "set 0 1 0 = 8", "set 0 1 0 = 0");
    // The sum follows each weight that is set over another one, from the greatest to the least.
    run(2, "w 99 00", "after 0 0 1 = 1/2", "set 0 0 0 = 9", "after 0 0 1 = 0/1", "set 0 1 0 = 9",
        "after 0 0 1 = 1/1", "set 0 1 9 = 0", "set 0 0 1 = 0", "after 0 0 1 = 1/10");
    // Both of one pair, and a state with itself.
    run(3, "set 1 2 3 = 0", "set 2 1 4 = 0", "set 1 1 5 = 0", "set 1 2 0 = 3", "set 2 1 0 = 4",
        "set 1 1 0 = 5");
  }

  private static void swapOfStates() {
    sentence = "Exchanges the numbers of two states: all weights from and to them go with them";
    run(1, "set 0 0 7 = 0", "swap 0 0 = 1", "set 0 0 0 = 7");
    // A state with itself: nothing moves.
    run(2, "w 12 34", "swap 0 0 = 1", "swap 1 1 = 1", "set 0 0 0 = 1", "set 0 1 0 = 2",
        "set 1 0 0 = 3", "set 1 1 0 = 4");
    // The weights between the two and of each to itself.
    run(2, "w 12 34", "swap 0 1 = 1", "set 0 0 0 = 4", "set 0 1 0 = 3", "set 1 0 0 = 2",
        "set 1 1 0 = 1");
    // The first and the last, in both orders, and neighbours.
    String[] first = {"98765", "43210", "12345", "67890", "24680"};
    String[] lastFirst = {"04682", "03214", "52341", "07896", "58769"};
    dueSwapped(first, "swap 0 4", lastFirst);
    dueSwapped(first, "swap 4 0", lastFirst);
    dueSwapped(lastFirst, "swap 0 4", first);
    dueSwapped(first, "swap 3 4", new String[] {"98756", "43201", "12354", "24608", "67809"});
    dueSwapped(first, "swap 2 2", first);
    // That a step stays for sure goes along, too.
    run(2, "set 0 1 1 = 0", "swap 0 1 = 1", "after 0 0 1 = 1/1", "after 1 0 1 = 1/1",
        "swap 0 1 = 1", "after 1 1 1 = 1/1", "after 0 1 1 = 1/1");
  }

  private static void dueSwapped(String[] chain, String swap, String[] want) {
    Walks x = new Walks(chain.length);
    x.weights(chain);
    x.due(swap, 1);
    dueAsNew(x, want);
  }

  // ---- Promises 4 to 7 ----

  private static void reachOfStates() {
    sentence = "The set of states to which one can go from i";
    run(1, "reach 0 = 1", "set 0 0 9 = 0", "reach 0 = 1", "reach 1 = -1", "reach -1 = -1");
    run(5, "reach 4 = 16", "w 00001 00000 00000 00000 00000", "reach 0 = 17", "reach 4 = 16",
        "w 99999 99999 99999 99999 99999", "reach 0 = 31", "reach 4 = 31");
  }

  private static void classOfStates() {
    sentence = "The class of i, as a set";
    run(1, "classOf 0 = 1", "classOf 1 = -1", "classOf -1 = -1");
    run(5, "classOf 4 = 16", "w 00001 00000 00000 00000 00000", "classOf 0 = 1", "classOf 4 = 16",
        "set 4 0 1 = 0", "classOf 0 = 17", "classOf 4 = 17", "classOf 2 = 4");
  }

  private static void closedAnswers() {
    sentence = "1 if the class of i is closed, else 0";
    run(1, "closed 0 = 1", "closed 1 = -1", "closed -1 = -1");
    // The least chance to leave is enough.
    run(5, "w 99990 99990 99990 99991 00000", "closed 0 = 0", "closed 3 = 0", "closed 4 = 1",
        "set 3 4 0 = 1", "closed 0 = 1", "closed 3 = 1");
  }

  private static void periodOfRows() {
    sentence = "The greatest number that divides the lengths of all rows of one or more steps";
    // The shortest row, one step, by a weight or for want of any; the longest circle, five.
    run(1, "period 0 = 1", "set 0 0 1 = 0", "period 0 = 1", "period 1 = -1", "period -1 = -1");
    run(5, "w 01000 00100 00010 00001 10000", "period 0 = 5", "period 4 = 5", "set 2 2 1 = 0",
        "period 0 = 1", "period 4 = 1");
    run(2, "w 01 10", "period 0 = 2", "period 1 = 2");
    // Lengths 4 and 2, 3 and 3, 5 and 4, 5 and 2.
    run(4, "w 0100 1010 0001 1000", "period 0 = 2", "period 3 = 2");
    run(5, "w 01010 00100 10000 00001 10000", "period 0 = 3", "period 1 = 3", "period 4 = 3");
    run(5, "w 01000 00100 00010 10001 10000", "period 0 = 1", "period 4 = 1");
    run(5, "w 01000 00100 00010 00101 10000", "period 0 = 1", "period 1 = 1");
    // The loop that tells is four steps away, and four back.
    run(5, "w 01000 10100 01010 00101 00010", "period 0 = 2", "set 4 4 9 = 0", "period 0 = 1");
    // Or a ring of three is: up to it, round it and back.
    run(5, "w 01000 10100 01010 00001 00100", "period 0 = 1", "period 3 = 1", "set 1 2 0 = 1",
        "period 0 = 2", "period 3 = 3");
    // In a class that is left for good sooner or later, and ahead of another circle.
    run(3, "w 010 101 001", "period 0 = 2", "period 1 = 2", "period 2 = 1");
  }

  private static void periodOfNone() {
    sentence = "0 if there is none";
    run(2, "set 0 1 1 = 0", "period 0 = 0", "period 1 = 1", "set 0 0 1 = 0", "period 0 = 1");
    run(5, "w 01000 00100 00010 00001 00100", "period 0 = 0", "period 1 = 0", "period 2 = 3",
        "period 4 = 3");
  }

  // ---- Promises 8 to 10 ----

  private static void hitFromTheBeginning() {
    sentence = "The chance that a walk from i ever is in a set (from the beginning on)";
    // In the set at once, though it is left for good with the first step.
    run(2, "set 0 1 1 = 0", "hit 0 1 = 1/1", "hit 1 1 = 0/1", "hit 0 2 = 1/1");
    // The empty set and the full one.
    for (int n = 1; n <= 5; n++) {
      run(n, "hit 0 0 = 0/1", "hit " + (n - 1) + " 0 = 0/1", "hit 0 " + ((1 << n) - 1) + " = 1/1",
          "hit " + (n - 1) + " " + ((1 << n) - 1) + " = 1/1");
    }
    // Sure in the end, however rare the step is; and almost never, and almost surely.
    run(2, "w 91 00", "hit 0 2 = 1/1");
    run(5, "w 01009 00109 00019 00001 00001", "hit 0 8 = 1/1000", "hit 2 8 = 1/10", "hit 0 16 = 1/1",
        "hit 3 8 = 1/1", "hit 4 8 = 0/1");
    run(5, "w 09001 00901 00091 00010 00001", "hit 0 8 = 729/1000", "hit 0 16 = 271/1000",
        "hit 0 24 = 1/1");
  }

  private static void beforeTheOther() {
    sentence = "The chance that a walk from i ever is in the set 'first', "
        + "and was not in the set 'other' before";
    String gambler = "w 000 101 000";
    run(3, gambler, "before 1 1 4 = 1/2", "before 1 4 1 = 1/2");
    // From the beginning on: in 'first', or in 'other', where what comes then is too late.
    run(3, gambler, "before 1 2 5 = 1/1", "before 1 5 2 = 0/1", "before 1 2 1 = 1/1");
    // Empty sets, alone and both (they have no state in common), and full ones.
    run(3, gambler, "before 1 0 0 = 0/1", "before 1 0 7 = 0/1", "before 1 7 0 = 1/1",
        "before 1 1 0 = 1/2", "before 1 0 1 = 0/1");
    // 'other' stands on the only way; or is come to only from 'first'.
    run(3, "w 010 001 001", "before 0 4 2 = 0/1", "before 0 2 4 = 1/1", "before 0 4 0 = 1/1");
    // A walk that comes to neither.
    run(4, "w 0111 0000 0000 0000", "before 0 2 4 = 1/3", "before 0 4 2 = 1/3", "before 0 6 8 = 2/3");
    run(1, "before 0 0 0 = 0/1", "before 0 1 0 = 1/1", "before 0 0 1 = 0/1");
  }

  private static void beforeWithCommonStates() {
    sentence = "the two have a state in common: -4 (after part)";
    for (int n = 1; n <= 5; n++) {
      int full = (1 << n) - 1;
      Walks x = new Walks(n);
      x.due("before 0 1 1 0", -4);
      x.due("before 0 " + full + " " + full + " 1", -4);
      x.due("before 0 " + (1 << (n - 1)) + " " + full + " 0", -4);
      x.due("before 0 " + full + " " + (1 << (n - 1)) + " 1", -4);
      x.due("before 0 1 1 2", -3);
      x.due("before 0 1 1 -1", -3);
      x.due("before 0 " + full + " " + (full + 1) + " 0", -2);
      x.due("before " + n + " 1 1 0", -1);
      x.row("before 0 1 " + (full - 1) + " = 1/1");
      x.row("before 0 " + (full - 1) + " 1 = 0/1");
      x.row("before 0 0 0 = 0/1");
    }
  }

  private static void timeToTheSet() {
    sentence = "The expected number of steps after which a walk from i is in a set for the first time";
    // At once, though left with the first step; after one step for sure; the full set.
    run(2, "set 0 1 1 = 0", "time 0 1 = 0/1", "time 0 2 = 1/1", "time 0 3 = 0/1");
    for (int n = 1; n <= 5; n++) {
      run(n, "time 0 " + ((1 << n) - 1) + " = 0/1", "time " + (n - 1) + " " + ((1 << n) - 1) + " = 0/1");
    }
    // Rare steps: the longest ways up against all that leads back.
    run(2, "w 91 00", "time 0 2 = 10/1");
    run(5, "w 91000 90100 90010 90001 00000", "time 0 16 = 11110/1", "time 4 16 = 0/1");
    run(5, "w 91000 99100 99910 99991 00000", "time 0 16 = 60448/1", "time 3 16 = 58249/1");
    // Less than two steps, more than one.
    run(3, "w 018 001 000", "time 0 4 = 10/9", "time 0 6 = 1/1");
  }

  private static void timeWithoutBound() {
    sentence = "1 / 0 if the chance that it ever is is less than 1";
    // The empty set; a set out of reach; one that is missed with a small chance only.
    for (int n = 1; n <= 5; n++) {
      run(n, "time 0 0 = 1/0", "time " + (n - 1) + " 0 = 1/0");
    }
    run(2, "w 10 00", "time 0 2 = 1/0", "time 1 1 = 1/0");
    run(5, "w 01000 90100 09010 00901 00001", "time 3 1 = 1/0", "time 3 17 = 131/41");
    run(3, "w 091 000 000", "time 0 2 = 1/0", "time 0 4 = 1/0", "time 0 6 = 1/1");
    // Sure to come, though beyond the set the walk can get lost, or others come to it by chance only.
    run(3, "w 010 001 001", "time 0 2 = 1/1", "time 2 2 = 1/0");
    run(4, "w 0100 0000 0101 0000", "time 0 2 = 1/1", "time 2 2 = 1/0", "time 2 10 = 1/1");
  }

  // ---- Promises 11 to 13 ----

  private static void visitsFromTheBeginning() {
    sentence = "The expected number of times, the beginning counted, that a walk from i is in j";
    run(2, "set 0 1 1 = 0", "visits 0 0 = 1/1", "visits 1 0 = 0/1");
    run(3, "w 010 001 000", "visits 0 1 = 1/1", "visits 1 1 = 1/1", "visits 2 1 = 0/1");
    // Many times; almost never; and as many as all the falling back makes it.
    run(2, "w 91 00", "visits 0 0 = 10/1");
    run(5, "w 01009 00109 00019 00009 00000", "visits 0 3 = 1/1000", "visits 0 0 = 1/1",
        "visits 3 3 = 1/1");
    run(5, "w 91000 99100 99910 99991 00000", "visits 3 3 = 37/1", "visits 3 0 = 47880/1");
  }

  private static void visitsWithoutBound() {
    sentence = "1 / 0 if that is without bound";
    // Come to by a small chance only, but then without end; and not at all out of reach.
    run(5, "w 01009 00109 00019 00009 00000", "set 3 3 1 = 0", "set 3 4 0 = 9", "visits 0 3 = 1/0",
        "visits 3 3 = 1/0", "visits 0 4 = 1/0", "visits 4 3 = 0/1", "visits 3 4 = 0/1");
    run(2, "visits 0 0 = 1/0", "visits 0 1 = 0/1", "set 0 1 1 = 0", "visits 0 1 = 1/0",
        "visits 0 0 = 1/1", "set 1 0 1 = 0", "visits 0 0 = 1/0", "visits 1 0 = 1/0");
  }

  private static void shareInTheLongRun() {
    sentence = "The share of its steps that a walk from i is in j in the long run: the limit";
    // All of them; none out of reach; none where the walk is only for a while, at the beginning too.
    run(1, "share 0 0 = 1/1", "set 0 0 5 = 0", "share 0 0 = 1/1");
    run(2, "share 0 0 = 1/1", "share 0 1 = 0/1", "w 91 00", "share 0 0 = 0/1", "share 0 1 = 1/1",
        "share 1 0 = 0/1", "share 1 1 = 1/1");
    // The limit is there though the chance to be in j goes up and down for ever.
    run(2, "w 01 10", "share 0 0 = 1/2", "share 0 1 = 1/2");
    run(5, "w 01000 00100 00010 00001 10000", "share 0 0 = 1/5", "share 0 4 = 1/5", "share 3 1 = 1/5");
    // A small share, and a small chance to come to where it is.
    run(5, "w 91000 90100 90010 90001 90000", "share 0 4 = 1/11111", "share 4 0 = 10000/11111");
    run(5, "w 01009 00109 00019 00009 00000", "set 3 3 1 = 0", "set 3 4 0 = 9", "share 0 3 = 1/1000",
        "share 0 4 = 999/1000", "share 0 0 = 0/1");
  }

  private static void afterSteps() {
    sentence = "The chance that a walk from i is in j after k steps";
    // No step at all: the walk is where it begins, whatever the weights are.
    run(2, "w 01 10", "after 0 0 0 = 1/1", "after 0 1 0 = 0/1", "after 0 0 1 = 0/1",
        "after 0 1 1 = 1/1", "after 0 0 2 = 1/1", "after 0 1 2 = 0/1");
    run(3, "w 121 001 100", "after 0 0 0 = 1/1", "after 0 1 0 = 0/1", "after 0 2 0 = 0/1",
        "after 0 0 1 = 1/4", "after 0 1 1 = 1/2", "after 0 0 2 = 5/16", "after 0 1 2 = 1/8",
        "after 0 2 2 = 9/16");
    // The second step is from a state that stays where it is, or by way of one only.
    run(3, "w 011 000 100", "after 0 1 2 = 1/2", "after 0 0 2 = 1/2", "after 0 2 2 = 0/1");
    run(1, "after 0 0 0 = 1/1", "after 0 0 1 = 1/1", "after 0 0 2 = 1/1");
  }

  private static void afterHowManySteps() {
    sentence = "k is not 0 to 2: -4";
    int[] no = {MIN, MIN + 1, -2, -1, 3, 4, 256, 257, 65536, MAX - 1, MAX};
    for (int n = 1; n <= 5; n++) {
      Walks x = new Walks(n);
      for (int k = 0; k <= 2; k++) {
        x.row("after 0 0 " + k + " = 1/1");
      }
      for (int k : no) {
        x.due("after 0 0 " + k + " 0", -4);
        x.due("after 0 0 " + k + " 1", -4);
        x.due("after 0 0 " + k + " 2", -3);
        x.due("after " + n + " 0 " + k + " 2", -1);
      }
    }
  }

  // ---- Promises 14 to 16 ----

  private static void treesToTheRoot() {
    sentence = "for each state other than r one other state, "
        + "such that following these choices one comes to r from every state";
    // The way of a state to itself is no choice, and r chooses nothing.
    run(2, "w 51 29", "trees 0 = 2", "trees 1 = 1", "set 0 0 0 = 5", "set 1 1 0 = 9", "trees 0 = 2");
    run(3, "w 999 100 010", "trees 0 = 1");
    // States that choose each other do not come to r, and one that can choose none leaves no way.
    run(3, "w 010 100 110", "trees 2 = 0", "trees 0 = 2", "set 0 2 1 = 0", "trees 2 = 1");
    run(5, "w 00000 10000 01000 00100 00010", "trees 0 = 1", "trees 1 = 0", "trees 4 = 0",
        "set 4 3 0 = 1", "trees 0 = 0");
    // No weights at all, and all of the greatest: 125 trees of four weights each.
    run(5, "trees 0 = 0", "trees 4 = 0", "w 99999 99999 99999 99999 99999", "trees 0 = 820125",
        "trees 4 = 820125");
    run(5, "w 01111 10111 11011 11101 11110", "trees 0 = 125", "trees 3 = 125");
    run(2, "trees 0 = 0", "set 1 0 9 = 0", "trees 0 = 9", "trees 1 = 0", "trees 2 = -1", "trees -1 = -1");
  }

  private static void treesOfOneState() {
    sentence = "trees: with one state there is nothing to choose, and the sum is 1";
    int[] one = {MIN, -1, 0, 1};
    for (int states : one) {
      run(states, "trees 0 = 1", "set 0 0 9 = 0", "trees 0 = 1", "trees 1 = -1", "trees -1 = -1");
    }
    run(2, "trees 0 = 0");
  }

  private static void reversibleChains() {
    sentence = "1 if there are numbers f(i) above 0 such that f(i) times the chance of a step "
        + "from i to j is f(j) times that of a step from j to i, for all i and j; else 0";
    // One state, no weights, and weights of states to themselves alone: nothing to balance.
    for (int n = 1; n <= 5; n++) {
      run(n, "reversible = 1", "set 0 0 9 = 0", "reversible = 1");
    }
    // f would have to be 0 for a step that has none back, whichever of the two has the weight.
    run(2, "set 0 1 1 = 0", "reversible = 0", "set 1 0 9 = 0", "reversible = 1", "set 0 1 0 = 1",
        "reversible = 0");
    run(5, "w 00000 00000 00000 00000 00010", "reversible = 0");
    run(5, "w 00001 00000 00000 00000 10000", "reversible = 1");
    // W(i) = 0 in between: it stays, and a step that leads to it has none back.
    run(3, "w 010 100 000", "reversible = 1", "set 1 2 1 = 0", "reversible = 0");
    // Rings that miss it by the least, 64 against 63, and then not.
    run(3, "w 087 908 110", "reversible = 0", "set 0 1 9 = 8", "set 1 2 7 = 8", "reversible = 1");
    // The greatest and the least weights, all the way round and not quite.
    run(5, "w 09009 90900 09090 00909 90090", "reversible = 1", "set 4 0 8 = 9", "reversible = 0",
        "set 2 1 8 = 9", "reversible = 1", "set 2 1 9 = 8", "set 1 2 8 = 9", "reversible = 0",
        "set 1 2 9 = 8", "set 0 1 8 = 9", "reversible = 0", "set 1 0 8 = 9", "reversible = 0",
        "set 0 4 8 = 9", "reversible = 1");
    run(5, "w 09000 10900 01090 00109 00010", "reversible = 1", "set 4 0 1 = 0", "reversible = 0",
        "set 0 4 1 = 0", "reversible = 0");
    // The weight of a state to itself changes the chances, but not this.
    run(3, "w 012 201 120", "reversible = 0", "set 1 1 9 = 0", "reversible = 0");
    run(3, "w 011 101 110", "reversible = 1", "set 1 1 9 = 0", "reversible = 1");
    // Two parts that no steps join: each by itself.
    run(5, "w 09000 10000 00012 00201 00120", "reversible = 0", "set 2 4 1 = 2", "set 3 2 1 = 2",
        "set 4 3 1 = 2", "reversible = 1", "set 0 1 0 = 9", "reversible = 0");
  }

  public static void main(String[] args) {
    callsOnOneObject();
    statesFromZero();
    setsAsNumbers();
    setDigits();
    parts();
    noWeightsAtAll();
    chancesOfWeights();
    canGo();
    oneClass();
    closedClass();
    lowestTerms();
    zeroIsOverOne();
    withoutBound();
    refusedCalls();
    askingCalls();
    orderOfTests();
    clampedStates();
    weightsAtFirst();
    weightsAllowed();
    swapOfStates();
    reachOfStates();
    classOfStates();
    closedAnswers();
    periodOfRows();
    periodOfNone();
    hitFromTheBeginning();
    beforeTheOther();
    beforeWithCommonStates();
    timeToTheSet();
    timeWithoutBound();
    visitsFromTheBeginning();
    visitsWithoutBound();
    shareInTheLongRun();
    afterSteps();
    afterHowManySteps();
    treesToTheRoot();
    treesOfOneState();
    reversibleChains();
    System.out.println(wrong == 0 ? "all edges are as due" : wrong + " answers are not as due");
    if (wrong != 0) {
      System.exit(1);
    }
  }
}
