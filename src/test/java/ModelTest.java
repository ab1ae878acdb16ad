import java.util.Arrays;
import java.util.Map;
import java.util.Random;
import java.util.TreeMap;

/** Long runs of calls, always the same ones: each answer, and each reason, is compared with the model's. */
public final class ModelTest {
  private static final int RUNS = 4000;
  private static final int MOST_CALLS = 512;
  private static final int LAST_CALLS = 100;
  private static final String[] STATEMENTS = {
      "insert", "insert", "insert", "insert", "insert", "delete", "update", "update", "update",
      "update", "shift", "keep", "back"};
  private static final String[] QUESTIONS = {"has", "cell", "key", "count", "referring"};
  private static final String[] RULES = {"table", "link", "single", "check", "link"};
  private static final int[] EDGES = {
      Integer.MIN_VALUE, Integer.MAX_VALUE, -1, 4, 5, 6, 18, 99, 301, 9, 100, 300, 65536};
  private static final int[][] WORDS = {
      {1, 208, 13}, {1, 17, 17}, {0, 1, 14, 17}, {1, 192, 13, 17}, {1, 0, 10, 2, 11}, {2, 1, 12, 203, 14, 17},
      {1, 2, 13, 1, 2, 14, 16}, {0, 200, 13, 1, 15, 17}, {3, 2, 14, 17}, {201}, {1, 3, 16, 0, 16}};

  /** What the keys of a run are, beside 1, 2, ..: by how much the first and each next one grows. */
  private static final int[][] SPREADS = {
      {0, 1}, {0, 1}, {0, 1}, {0, -1}, {0, 1000}, {-5, 2}, {Integer.MAX_VALUE - 3, 1}, {0, 1 << 30}, {7, 65536}};

  private final Random random;
  private final int tables;
  private final int keys;
  private final int[] spread;
  private final KinLedger ledger = new KinLedger();
  private final Model model = new Model();
  private int calls = 0;

  private ModelTest(int seed) {
    random = new Random(seed);
    tables = 2 + random.nextInt(3);
    keys = 2 + random.nextInt(random.nextInt(4) == 0 ? 23 : 11);
    spread = SPREADS[random.nextInt(SPREADS.length)];
  }

  public static void main(String[] args) {
    Map<String, Integer> seen = new TreeMap<>();
    int wrong = 0;
    for (int run = 0; run < RUNS && wrong < 5; run++) {
      String fault = new ModelTest(run).run(seen);
      if (fault != null) {
        wrong++;
        System.out.println("run " + run + ": " + fault);
      }
    }
    System.out.println("ModelTest: " + RUNS + " runs, " + wrong + " wrong; reasons met: " + seen);
    System.exit(wrong == 0 ? 0 : 1);
  }

  private String run(Map<String, Integer> seen) {
    int rules = 10 + random.nextInt(90);
    while (calls < MOST_CALLS - LAST_CALLS) {
      String fault = calls < rules || random.nextInt(40) == 0 ? ruleCall() : plainCall();
      if (fault == null) {
        fault = ask("reason");
      }
      if (fault != null) {
        return fault;
      }
    }
    seen.merge("" + ledger.reason(), 1, Integer::sum);
    calls++;
    return lastCalls();
  }

  /** What is there at the end, as far as the limit of calls lets it be asked. */
  private String lastCalls() {
    for (int t = 0; t < tables; t++) {
      for (int k = 1; k <= keys; k++) {
        for (int column = 1; column < 4; column++) {
          String fault = calls < MOST_CALLS ? ask("cell", t, spread(k), column) : null;
          if (fault != null) {
            return fault;
          }
        }
      }
    }
    return null;
  }

  private String ruleCall() {
    String name = RULES[random.nextInt(RULES.length)];
    if (name.equals("check")) {
      // The checks ask for small cells: where cells are great they would refuse nearly every row.
      return spread[1] == 1 || random.nextInt(10) == 0 ? checkCalls() : null;
    }
    switch (name) {
      case "table": return ask(name, odd(2 + random.nextInt(3)));
      case "link": return ask(name, odd(table()), odd(column(1)), odd(table()), odd(random.nextInt(3)));
      default: return ask(name, odd(table()), odd(column(1)));
    }
  }

  private String checkCalls() {
    int[] words = WORDS[random.nextInt(WORDS.length)];
    if (random.nextInt(4) > 0) {
      for (int w : words) {
        String fault = ask("word", random.nextInt(60) == 0 ? random.nextInt(320) - 5 : w);
        if (fault != null) {
          return fault;
        }
      }
    }
    return ask("check", odd(table()));
  }

  private String plainCall() {
    boolean asks = random.nextInt(4) == 0;
    String[] names = asks ? QUESTIONS : STATEMENTS;
    String name = names[random.nextInt(names.length)];
    switch (name) {
      case "insert": return ask(name, odd(table()), odd(key()), odd(cell()), odd(cell()), odd(cell()));
      case "delete":
        return random.nextInt(3) == 0
            ? ask(name, odd(table()), odd(column(0)), odd(cell()))
            : ask(name, odd(table()), 0, odd(key()));
      case "update":
        return random.nextInt(3) == 0
            ? ask(name, odd(table()), odd(key()), 0, odd(key()))
            : ask(name, odd(table()), odd(key()), odd(column(0)), odd(cell()));
      case "shift": return ask(name, odd(table()), odd(column(1)), odd(random.nextInt(5) - 2));
      case "has": return ask(name, odd(table()), odd(cell()));
      case "cell": return ask(name, odd(table()), odd(cell()), odd(column(0)));
      case "key": return ask(name, odd(table()), odd(random.nextInt(6)));
      case "count": return ask(name, odd(table()));
      case "referring": return ask(name, odd(random.nextInt(6)), odd(key()));
      default: return random.nextInt(3) == 0 ? ask(name) : null;
    }
  }

  private int table() {
    return random.nextInt(tables);
  }

  private int column(int least) {
    int columns = random.nextInt(4) == 0 ? 4 : 3;
    return least + random.nextInt(columns - least);
  }

  private int key() {
    return spread(1 + random.nextInt(keys));
  }

  private int spread(int k) {
    return spread[0] + k * spread[1];
  }

  private int cell() {
    return random.nextInt(3) == 0 ? 0 : key();
  }

  /** Now and then another value than the one meant. */
  private int odd(int meant) {
    if (random.nextInt(50) > 0) {
      return meant;
    }
    return random.nextBoolean() ? EDGES[random.nextInt(EDGES.length)] : random.nextInt(8) - 2;
  }

  private String ask(String name, int... given) {
    int[] n = Arrays.copyOf(given, 5);
    calls++;
    String due = model.call(name, n);
    String got = Calls.answer(ledger, name, n);
    return got.equals(due) ? null : "call " + calls + ", " + name + Arrays.toString(given) + " answered " + got + ", due is " + due;
  }
}
