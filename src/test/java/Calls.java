import java.util.NoSuchElementException;

/** Calls of a ledger by name, with the answer as a text: a number, true, false, ok, or an exception's letters. */
final class Calls {
  private Calls() { }

  static String answer(KinLedger ledger, String name, int[] n) {
    try {
      return call(ledger, name, n);
    } catch (IllegalArgumentException e) {
      return "IAE";
    } catch (IllegalStateException e) {
      return "ISE";
    } catch (NoSuchElementException e) {
      return "NSE";
    } catch (IndexOutOfBoundsException e) {
      return e.getClass() == IndexOutOfBoundsException.class ? "IOB" : e.toString();
    } catch (RuntimeException e) {
      return e.toString();
    }
  }

  private static String call(KinLedger ledger, String name, int[] n) {
    switch (name) {
      case "table": return "" + ledger.table(n[0]);
      case "link": return "" + ledger.link(n[0], n[1], n[2], n[3]);
      case "single": return "" + ledger.single(n[0], n[1]);
      case "word": return "" + ledger.word(n[0]);
      case "check": return "" + ledger.check(n[0]);
      case "insert": ledger.insert(n[0], n[1], n[2], n[3], n[4]); return "ok";
      case "delete": return "" + ledger.delete(n[0], n[1], n[2]);
      case "update": return "" + ledger.update(n[0], n[1], n[2], n[3]);
      case "shift": return "" + ledger.shift(n[0], n[1], n[2]);
      case "keep": return "" + ledger.keep();
      case "back": return "" + ledger.back();
      case "has": return "" + ledger.has(n[0], n[1]);
      case "cell": return "" + ledger.cell(n[0], n[1], n[2]);
      case "key": return "" + ledger.key(n[0], n[1]);
      case "count": return "" + ledger.count(n[0]);
      case "referring": return "" + ledger.referring(n[0], n[1]);
      case "reason": return "" + ledger.reason();
      default: throw new UnsupportedOperationException("no such call: " + name);
    }
  }
}
