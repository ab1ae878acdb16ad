import java.io.IOException;
import java.nio.file.Files;
import java.nio.file.Path;
import java.util.ArrayList;
import java.util.List;
import java.util.stream.Stream;

/**
 * Runs the texts under src/test/runs. A line there is "new" (a new object), "call arguments ->
 * answer", or a comment behind #. An answer is a number, true, false, ok (a call that answers
 * nothing), IAE, NSE, IOB, or "ISE reason". Missing cells of insert are 0. "rows table" reads a whole
 * table by key, in rising order, a row in brackets. Every call but an ISE must leave the reason alone.
 */
public final class RunsTest {
  private static final int MOST_CALLS = 512;

  private KinLedger ledger = null;
  private int calls = 0;
  private int cases = 0;
  private int wrong = 0;

  public static void main(String[] args) throws IOException {
    RunsTest test = new RunsTest();
    List<Path> files;
    try (Stream<Path> found = Files.list(Path.of("src/test/runs"))) {
      files = found.sorted().toList();
    }
    for (Path file : files) {
      test.runFile(file);
    }
    System.out.println("RunsTest: " + files.size() + " files, " + test.cases + " calls, " + test.wrong + " wrong");
    System.exit(test.wrong == 0 && test.cases > 0 ? 0 : 1);
  }

  private void runFile(Path file) throws IOException {
    ledger = null;
    int number = 0;
    for (String line : Files.readAllLines(file)) {
      number++;
      String text = line.replaceAll("#.*", "").trim();
      if (text.equals("new")) {
        ledger = new KinLedger();
        calls = 0;
      } else if (!text.isEmpty()) {
        runLine(file.getFileName() + ":" + number, text);
      }
    }
  }

  private void runLine(String where, String text) {
    String[] halves = text.split(" *-> *", -1);
    if (halves.length != 2) {
      throw new IllegalStateException(where + ": no such line: " + text);
    }
    cases++;
    int before = ledger.reason();
    String got = answer(halves[0].trim().split(" +"));
    calls += 3;
    int after = ledger.reason();
    if (got.equals("ISE")) {
      got = "ISE " + after;
    } else if (after != before) {
      got += " and reason " + after;
    }
    if (!got.equals(halves[1])) {
      wrong++;
      System.out.println(where + ": " + halves[0] + " answered " + got + ", due is " + halves[1]);
    }
    if (calls > MOST_CALLS) {
      throw new IllegalStateException(where + ": too many calls for one object");
    }
  }

  private String answer(String[] words) {
    int[] n = new int[5];
    for (int i = 1; i < words.length; i++) {
      n[i - 1] = Integer.parseInt(words[i]);
    }
    return words[0].equals("rows") ? rows(n[0]) : Calls.answer(ledger, words[0], n);
  }

  private String rows(int table) {
    List<String> rows = new ArrayList<>();
    int count = ledger.count(table);
    for (int k = 0; k < count; k++) {
      rows.add(row(table, ledger.key(table, k)));
    }
    calls += 1 + count;
    return String.join(" ", rows);
  }

  private String row(int table, int key) {
    List<String> cells = new ArrayList<>();
    for (int column = 0; column < 5; column++) {
      calls++;
      try {
        cells.add("" + ledger.cell(table, key, column));
      } catch (IllegalArgumentException e) {
        break;
      }
    }
    return "(" + String.join(" ", cells) + ")";
  }
}
