import java.io.IOException;
import java.nio.file.Files;
import java.nio.file.Path;
import java.util.ArrayList;
import java.util.Arrays;
import java.util.List;
import java.util.stream.Stream;

/**
 * Runs the texts under src/test/runs. A line there is "says: " and a sentence of the document (a test
 * of its own: all that follows, up to the next one), "new" (a new object), "call arguments ->
 * answer", or a comment behind #. An answer is a number, true, false, ok (a call that answers
 * nothing), IAE, NSE, IOB, or "ISE reason". Missing cells of insert are 0. "rows table" reads a whole
 * table by key, in rising order, a row in brackets. "fill table first last b c d" inserts a row with
 * these cells for each key from the first to the last: ok, if all went well. "times n call arguments"
 * makes a call so many times: its answer, if it was always the same. Every call but an ISE must leave
 * the reason alone.
 */
public final class RunsTest {
  private static final int MOST_CALLS = 512;

  private KinLedger ledger = null;
  private int calls = 0;
  private String sentence = "";
  private int sentenceCases = 0;
  private int sentences = 0;
  private int cases = 0;
  private int wrong = 0;

  public static void main(String[] args) throws IOException {
    RunsTest test = new RunsTest();
    List<Path> files;
    try (Stream<Path> found = Files.list(Path.of("src/test/runs"))) {
      files = found.sorted().toList();
    }
    for (Path file : files) {
      test.runFile(file);
    }
    System.out.println("RunsTest: " + files.size() + " files, " + test.sentences + " sentences, " + test.cases
        + " lines, " + test.wrong + " wrong");
    System.exit(test.wrong == 0 && test.cases > 0 ? 0 : 1);
  }

  private void runFile(Path file) throws IOException {
    ledger = null;
    sentence = "";
    int number = 0;
    for (String line : Files.readAllLines(file)) {
      number++;
      String text = line.replaceAll("#.*", "").trim();
      if (text.startsWith("says: ")) {
        endSentence(file);
        sentence = text.substring(6);
        sentences++;
        sentenceCases = 0;
        ledger = null;
      } else if (text.equals("new")) {
        ledger = new KinLedger();
        calls = 0;
      } else if (!text.isEmpty()) {
        runLine(file.getFileName() + ":" + number, text);
      }
    }
    endSentence(file);
  }

  private void endSentence(Path file) {
    if (!sentence.isEmpty() && sentenceCases == 0) {
      throw new IllegalStateException(file + ": no call for: " + sentence);
    }
  }

  private void runLine(String where, String text) {
    String[] halves = text.split(" *-> *", -1);
    if (halves.length != 2 || ledger == null || sentence.isEmpty()) {
      throw new IllegalStateException(where + ": no such line here: " + text);
    }
    cases++;
    sentenceCases++;
    int before = ledger.reason();
    String got = answer(halves[0].trim().split(" +"));
    calls += 3;
    int after = ledger.reason();
    if (got.equals("ISE")) {
      got = "ISE " + after;
    } else if (after != before) {
      got += " and reason " + after;
    }
    if (!got.equals(halves[1])) {
      wrong++;
      System.out.println(where + ": " + halves[0] + " answered " + got + ", due is " + halves[1]
          + ", for it says: " + sentence);
    }
    if (calls > MOST_CALLS) {
      throw new IllegalStateException(where + ": too many calls for one object");
    }
  }

  private String answer(String[] words) {
    if (words[0].equals("times")) {
      return times(Integer.parseInt(words[1]), Arrays.copyOfRange(words, 2, words.length));
    }
    int[] n = new int[6];
    for (int i = 1; i < words.length; i++) {
      n[i - 1] = Integer.parseInt(words[i]);
    }
    try {
      switch (words[0]) {
        case "rows": return rows(n[0]);
        case "fill": return fill(n);
        default: return Calls.answer(ledger, words[0], n);
      }
    } catch (RuntimeException e) {
      return e.toString();
    }
  }

  private String times(int times, String[] words) {
    String first = answer(words);
    for (int i = 1; i < times; i++) {
      String got = answer(words);
      if (!got.equals(first)) {
        return first + ", but " + got + " the time after " + i;
      }
    }
    calls += times - 1;
    return first;
  }

  private String fill(int[] n) {
    for (int key = n[1]; key <= n[2]; key++) {
      calls++;
      String got = Calls.answer(ledger, "insert", new int[] {n[0], key, n[3], n[4], n[5]});
      if (!got.equals("ok")) {
        return got + " for key " + key;
      }
    }
    return "ok";
  }

  private String rows(int table) {
    List<String> rows = new ArrayList<>();
    int count = ledger.count(table);
    for (int k = 0; k < count; k++) {
      rows.add(row(table, ledger.key(table, k)));
    }
    calls += 1 + count;
    return String.join(" ", rows);
  }

  private String row(int table, int key) {
    List<String> cells = new ArrayList<>();
    for (int column = 0; column < 5; column++) {
      calls++;
      try {
        cells.add("" + ledger.cell(table, key, column));
      } catch (IllegalArgumentException e) {
        break;
      }
    }
    return "(" + String.join(" ", cells) + ")";
  }
}
