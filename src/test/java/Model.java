import java.util.ArrayList;
import java.util.HashMap;
import java.util.HashSet;
import java.util.List;
import java.util.Map;
import java.util.Set;
import java.util.TreeSet;

/**
 * What the document says, written a second time and in another way: rows are lists, and what follows
 * from a statement is a map from rows to new rows. Answers are texts; a refusal is "ISE".
 */
final class Model {
  private record Row(int table, List<Integer> cells) {
    int key() {
      return cells.get(0);
    }

    Row with(int column, int cell) {
      List<Integer> changed = new ArrayList<>(cells);
      changed.set(column, cell);
      return new Row(table, changed);
    }
  }

  private record Link(int child, int column, int parent, int way) {
    boolean refers(Row from, Row to) {
      return from.table == child && to.table == parent && from.cells.get(column) != 0
          && from.cells.get(column) == to.key();
    }
  }

  private record Single(int table, int column) { }

  private record Check(int table, List<Integer> words) { }

  private final List<Integer> tables = new ArrayList<>();
  private final List<Link> links = new ArrayList<>();
  private final List<Single> singles = new ArrayList<>();
  private final List<Check> checks = new ArrayList<>();
  private List<Integer> waiting = new ArrayList<>();
  private List<Row> rows = new ArrayList<>();
  private final List<List<Row>> remembered = new ArrayList<>();
  private int reason = 0;

  String call(String name, int[] n) {
    switch (name) {
      case "table": return table(n[0]);
      case "link": return link(n[0], n[1], n[2], n[3]);
      case "single": return single(n[0], n[1]);
      case "word": return word(n[0]);
      case "check": return check(n[0]);
      case "insert": return insert(n);
      case "delete": return delete(n[0], n[1], n[2]);
      case "update": return update(n[0], n[1], n[2], n[3]);
      case "shift": return shift(n[0], n[1], n[2]);
      case "keep": return keep();
      case "back": return back();
      case "has": return isTable(n[0]) ? "" + (row(n[0], n[1]) != null) : "IAE";
      case "cell": return cell(n[0], n[1], n[2]);
      case "key": return key(n[0], n[1]);
      case "count": return isTable(n[0]) ? "" + keys(n[0]).size() : "IAE";
      case "referring": return referring(n[0], n[1]);
      default: return "" + reason;
    }
  }

  private boolean isTable(int t) {
    return 0 <= t && t < tables.size();
  }

  private boolean isColumn(int t, int column, int least) {
    return isTable(t) && least <= column && column < tables.get(t);
  }

  private Row row(int t, int key) {
    return rows.stream().filter(r -> r.table == t && r.key() == key).findAny().orElse(null);
  }

  private TreeSet<Integer> keys(int t) {
    TreeSet<Integer> keys = new TreeSet<>();
    rows.stream().filter(r -> r.table == t).forEach(r -> keys.add(r.key()));
    return keys;
  }

  private String refused(int why) {
    reason = why;
    return "ISE";
  }

  private String table(int columns) {
    if (columns < 2 || columns > 4) return "IAE";
    if (tables.size() == 4) return "NSE";
    tables.add(columns);
    return "" + (tables.size() - 1);
  }

  private String link(int child, int column, int parent, int way) {
    if (!isColumn(child, column, 1) || !isTable(parent) || way < 0 || way > 2) return "IAE";
    if (links.size() == 6) return "NSE";
    Link made = new Link(child, column, parent, way);
    if (broken(made, rows)) return refused(400 + links.size());
    links.add(made);
    return "" + (links.size() - 1);
  }

  private String single(int t, int column) {
    if (!isColumn(t, column, 1)) return "IAE";
    if (singles.size() == 4) return "NSE";
    Single made = new Single(t, column);
    if (broken(made, rows)) return refused(300 + singles.size());
    singles.add(made);
    return "" + (singles.size() - 1);
  }

  private String word(int w) {
    boolean isWord = (0 <= w && w <= 3) || (10 <= w && w <= 17) || (100 <= w && w <= 300);
    if (!isWord) return "IAE";
    if (waiting.size() == 10) return "NSE";
    waiting.add(w);
    return "" + waiting.size();
  }

  private String check(int t) {
    if (!isTable(t)) return "IAE";
    Check made = new Check(t, waiting);
    waiting = new ArrayList<>();
    Integer[] anyCells = {1, 1, 1, 1};
    if (made.words.stream().anyMatch(w -> w < 4 && w >= tables.get(t))) return "IAE";
    if (result(made, List.of(anyCells)) == null) return "IAE";
    if (checks.size() == 4) return "NSE";
    if (broken(made, rows)) return refused(500 + checks.size());
    checks.add(made);
    return "" + (checks.size() - 1);
  }

  /** The result, or null if the words are not right. */
  private static Integer result(Check check, List<Integer> cells) {
    List<Integer> pile = new ArrayList<>();
    for (int w : check.words) {
      if (w <= 3) {
        pile.add(cells.get(w));
      } else if (w >= 100) {
        pile.add(w - 200);
      } else if (w == 17) {
        if (pile.isEmpty()) return null;
        pile.add(pile.remove(pile.size() - 1) == 0 ? 1 : 0);
      } else {
        if (pile.size() < 2) return null;
        int y = pile.remove(pile.size() - 1);
        int x = pile.remove(pile.size() - 1);
        boolean bothSo = x != 0 && y != 0;
        boolean oneSo = x != 0 || y != 0;
        pile.add(switch (w) {
          case 10 -> (int) ((long) x + y);
          case 11 -> (int) ((long) x - y);
          case 12 -> (int) ((long) x * y);
          case 13 -> x < y ? 1 : 0;
          case 14 -> x == y ? 1 : 0;
          case 15 -> bothSo ? 1 : 0;
          default -> oneSo ? 1 : 0;
        });
      }
    }
    return pile.size() == 1 ? pile.get(0) : null;
  }

  private static boolean broken(Link link, List<Row> all) {
    return all.stream().anyMatch(r -> r.table == link.child && r.cells.get(link.column) != 0
        && all.stream().noneMatch(p -> link.refers(r, p)));
  }

  private static boolean broken(Single single, List<Row> all) {
    Set<Integer> seen = new HashSet<>();
    return all.stream().anyMatch(r -> r.table == single.table && r.cells.get(single.column) != 0
        && !seen.add(r.cells.get(single.column)));
  }

  private static boolean broken(Check check, List<Row> all) {
    return all.stream().anyMatch(r -> r.table == check.table && result(check, r.cells) == 0);
  }

  private int whyBroken(List<Row> all) {
    List<Integer> why = new ArrayList<>();
    for (int t = 0; t < tables.size(); t++) if (broken(new Single(t, 0), all)) why.add(200 + t);
    for (Single s : singles) if (broken(s, all)) why.add(300 + singles.indexOf(s));
    for (Link l : links) if (broken(l, all)) why.add(400 + links.indexOf(l));
    for (Check c : checks) if (broken(c, all)) why.add(500 + checks.indexOf(c));
    return why.isEmpty() ? 0 : why.get(0);
  }

  private String settle(List<Row> changed, Set<Integer> keepers, String answer) {
    int why = keepers.isEmpty() ? whyBroken(changed) : 100 + new TreeSet<>(keepers).first();
    if (why != 0) return refused(why);
    rows = changed;
    return answer;
  }

  private String insert(int[] n) {
    if (!isTable(n[0]) || n[1] == 0) return "IAE";
    if (rows.size() == 24) return "NSE";
    List<Integer> cells = new ArrayList<>();
    for (int i = 0; i < tables.get(n[0]); i++) cells.add(n[1 + i]);
    List<Row> changed = new ArrayList<>(rows);
    changed.add(new Row(n[0], cells));
    return settle(changed, Set.of(), "ok");
  }

  private String delete(int t, int column, int cell) {
    if (!isColumn(t, column, 0)) return "IAE";
    Set<Row> gone = new HashSet<>();
    for (Row r : rows) if (r.table == t && r.cells.get(column) == cell) follow(r, gone);
    Set<Integer> keepers = new HashSet<>();
    List<Row> changed = new ArrayList<>();
    for (Row r : rows) {
      if (gone.contains(r)) continue;
      Row left = r;
      for (int i = 0; i < links.size(); i++) {
        Link link = links.get(i);
        if (gone.stream().noneMatch(g -> link.refers(r, g))) continue;
        if (link.way == 0) keepers.add(i);
        else left = left.with(link.column, 0);
      }
      changed.add(left);
    }
    return settle(changed, keepers, "" + gone.size());
  }

  private void follow(Row going, Set<Row> gone) {
    if (!gone.add(going)) return;
    for (Link link : links) {
      for (Row r : rows) if (link.way == 1 && link.refers(r, going)) follow(r, gone);
    }
  }

  private String update(int t, int key, int column, int cell) {
    if (!isColumn(t, column, 0) || (column == 0 && cell == 0)) return "IAE";
    Row old = row(t, key);
    if (old == null) return "NSE";
    Set<Integer> keepers = new HashSet<>();
    List<Row> changed = new ArrayList<>();
    for (Row r : rows) {
      Row next = r.equals(old) ? r.with(column, cell) : r;
      Map<Integer, Integer> told = new HashMap<>();
      for (int i = 0; i < links.size() && column == 0 && cell != key; i++) {
        Link link = links.get(i);
        if (!link.refers(r, old)) continue;
        if (link.way == 0) keepers.add(i);
        else told.putIfAbsent(link.column, link.way == 1 ? cell : 0);
      }
      for (Map.Entry<Integer, Integer> e : told.entrySet()) next = next.with(e.getKey(), e.getValue());
      changed.add(next);
    }
    return settle(changed, keepers, "" + old.cells.get(column));
  }

  private String shift(int t, int column, int by) {
    if (!isColumn(t, column, 1)) return "IAE";
    List<Row> changed = new ArrayList<>();
    for (Row r : rows) changed.add(r.table == t ? r.with(column, r.cells.get(column) + by) : r);
    return settle(changed, Set.of(), "" + keys(t).size());
  }

  private String keep() {
    if (remembered.size() == 4) return "NSE";
    remembered.add(rows);
    return "" + remembered.size();
  }

  private String back() {
    if (remembered.isEmpty()) return "NSE";
    int last = remembered.size() - 1;
    String answer = settle(remembered.get(last), Set.of(), "" + last);
    if (!answer.equals("ISE")) remembered.remove(last);
    return answer;
  }

  private String cell(int t, int key, int column) {
    if (!isColumn(t, column, 0)) return "IAE";
    Row found = row(t, key);
    return found == null ? "NSE" : "" + found.cells.get(column);
  }

  private String key(int t, int k) {
    if (!isTable(t)) return "IAE";
    List<Integer> keys = new ArrayList<>(keys(t));
    return k < 0 || k >= keys.size() ? "IOB" : "" + keys.get(k);
  }

  private String referring(int link, int key) {
    if (link < 0 || link >= links.size()) return "IAE";
    Row target = row(links.get(link).parent, key);
    if (target == null) return "NSE";
    return "" + rows.stream().filter(r -> links.get(link).refers(r, target)).count();
  }
}
