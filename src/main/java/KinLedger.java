import java.util.Arrays;
import java.util.NoSuchElementException;

/**
 * Tables whose rows refer to each other: every statement takes effect whole, with all that follows
 * from it, or not at all; then it is told what stood in its way.
 */
public final class KinLedger {
  private static final int MOST_TABLES = 4;
  private static final int LEAST_COLUMNS = 2;
  private static final int MOST_COLUMNS = 4;
  private static final int MOST_ROWS = 24;
  private static final int MOST_LINKS = 6;
  private static final int MOST_SINGLES = 4;
  private static final int MOST_CHECKS = 4;
  private static final int MOST_WORDS = 10;
  private static final int MOST_REMEMBERED = 4;

  private static final int KEY = 0;

  private static final int KEEP = 0;
  private static final int FOLLOW = 1;
  private static final int LOOSE = 2;

  private static final int KEPT = 100;
  private static final int SAME_KEY = 200;
  private static final int BROKEN_SINGLE = 300;
  private static final int BROKEN_LINK = 400;
  private static final int BROKEN_CHECK = 500;

  private static final int NONE = -1;

  private final int[] columnCounts = new int[MOST_TABLES];
  private int tableCount = 0;
  private final Link[] links = new Link[MOST_LINKS];
  private int linkCount = 0;
  private final Single[] singles = new Single[MOST_SINGLES];
  private int singleCount = 0;
  private final Check[] checks = new Check[MOST_CHECKS];
  private int checkCount = 0;
  private final int[] waiting = new int[MOST_WORDS];
  private int waitingCount = 0;

  private final Rows rows = new Rows();
  /** A statement works on this copy, so that one that is refused leaves no trace in the rows. */
  private final Rows draft = new Rows();
  private final Rows[] remembered = new Rows[MOST_REMEMBERED];
  private int rememberedCount = 0;
  private final boolean[] going = new boolean[MOST_ROWS];
  private int latestReason = 0;

  public KinLedger() {
    for (int i = 0; i < MOST_REMEMBERED; i++) {
      remembered[i] = new Rows();
    }
  }

  public int table(int columns) throws IllegalArgumentException, NoSuchElementException {
    needArgument(columns >= LEAST_COLUMNS && columns <= MOST_COLUMNS);
    needElement(tableCount < MOST_TABLES);
    columnCounts[tableCount] = columns;
    tableCount++;
    return tableCount - 1;
  }

  public int link(int child, int column, int parent, int way)
      throws IllegalArgumentException, NoSuchElementException, IllegalStateException {
    needArgument(isCellColumn(child, column) && isTable(parent));
    needArgument(way == KEEP || way == FOLLOW || way == LOOSE);
    needElement(linkCount < MOST_LINKS);
    Link made = new Link(child, column, parent, way);
    refuseIf(made.isBroken(rows), BROKEN_LINK + linkCount);
    links[linkCount] = made;
    linkCount++;
    return linkCount - 1;
  }

  public int single(int table, int column)
      throws IllegalArgumentException, NoSuchElementException, IllegalStateException {
    needArgument(isCellColumn(table, column));
    needElement(singleCount < MOST_SINGLES);
    Single made = new Single(table, column);
    refuseIf(made.isBroken(rows), BROKEN_SINGLE + singleCount);
    singles[singleCount] = made;
    singleCount++;
    return singleCount - 1;
  }

  public int word(int w) throws IllegalArgumentException, NoSuchElementException {
    needArgument(Check.isWord(w));
    needElement(waitingCount < MOST_WORDS);
    waiting[waitingCount] = w;
    waitingCount++;
    return waitingCount;
  }

  public int check(int table)
      throws IllegalArgumentException, NoSuchElementException, IllegalStateException {
    needArgument(isTable(table));
    int[] words = Arrays.copyOf(waiting, waitingCount);
    waitingCount = 0;
    needArgument(Check.areRight(words, columnCounts[table]));
    needElement(checkCount < MOST_CHECKS);
    Check made = new Check(table, words);
    refuseIf(made.isBroken(rows), BROKEN_CHECK + checkCount);
    checks[checkCount] = made;
    checkCount++;
    return checkCount - 1;
  }

  public void insert(int table, int a, int b, int c, int d)
      throws IllegalArgumentException, NoSuchElementException, IllegalStateException {
    needArgument(isTable(table) && a != 0);
    int place = rows.freePlace();
    needElement(place != NONE);
    draft.become(rows);
    draft.add(place, table);
    // Cells behind the table's columns lie here, too: no call ever names them.
    draft.put(place, KEY, a);
    draft.put(place, 1, b);
    draft.put(place, 2, c);
    draft.put(place, 3, d);
    settle(NONE);
  }

  public int delete(int table, int column, int cell)
      throws IllegalArgumentException, IllegalStateException {
    needArgument(isColumn(table, column));
    markGoing(table, column, cell);
    boolean more = true;
    // Each round but the last marks a row more, so there are no more rounds than rows.
    for (int round = 0; more && round < MOST_ROWS; round++) {
      more = spreadGoing();
    }
    draft.become(rows);
    int went = removeGoing();
    settle(loosenFromGoing());
    return went;
  }

  public int update(int table, int key, int column, int cell)
      throws IllegalArgumentException, NoSuchElementException, IllegalStateException {
    needArgument(isColumn(table, column) && (column != KEY || cell != 0));
    int place = rows.find(table, key);
    needElement(place != NONE);
    int old = rows.at(place, column);
    draft.become(rows);
    draft.put(place, column, cell);
    settle(column == KEY && cell != old ? passOnKey(place, cell) : NONE);
    return old;
  }

  public int shift(int table, int column, int by)
      throws IllegalArgumentException, IllegalStateException {
    needArgument(isCellColumn(table, column));
    draft.become(rows);
    for (int place = 0; place < MOST_ROWS; place++) {
      if (draft.holds(place, table)) {
        draft.put(place, column, draft.at(place, column) + by);
      }
    }
    settle(NONE);
    return rows.size(table);
  }

  public int keep() throws NoSuchElementException {
    needElement(rememberedCount < MOST_REMEMBERED);
    remembered[rememberedCount].become(rows);
    rememberedCount++;
    return rememberedCount;
  }

  public int back() throws NoSuchElementException, IllegalStateException {
    needElement(rememberedCount > 0);
    Rows last = remembered[rememberedCount - 1];
    int why = whyBroken(last);
    refuseIf(why != 0, why);
    rows.become(last);
    rememberedCount--;
    return rememberedCount;
  }

  public boolean has(int table, int key) throws IllegalArgumentException {
    needArgument(isTable(table));
    return rows.find(table, key) != NONE;
  }

  public int cell(int table, int key, int column)
      throws IllegalArgumentException, NoSuchElementException {
    needArgument(isColumn(table, column));
    int place = rows.find(table, key);
    needElement(place != NONE);
    return rows.at(place, column);
  }

  public int key(int table, int k) throws IllegalArgumentException, IndexOutOfBoundsException {
    needArgument(isTable(table));
    int place = rows.placeOfRank(table, k);
    if (place == NONE) {
      throw new IndexOutOfBoundsException();
    }
    return rows.at(place, KEY);
  }

  public int count(int table) throws IllegalArgumentException {
    needArgument(isTable(table));
    return rows.size(table);
  }

  public int referring(int link, int key) throws IllegalArgumentException, NoSuchElementException {
    needArgument(link >= 0 && link < linkCount);
    int target = rows.find(links[link].parent, key);
    needElement(target != NONE);
    int referring = 0;
    for (int place = 0; place < MOST_ROWS; place++) {
      if (links[link].target(rows, place) == target) {
        referring++;
      }
    }
    return referring;
  }

  public int reason() {
    return latestReason;
  }

  private boolean isTable(int table) {
    return table >= 0 && table < tableCount;
  }

  private boolean isColumn(int table, int column) {
    return isTable(table) && column >= 0 && column < columnCounts[table];
  }

  private boolean isCellColumn(int table, int column) {
    return isColumn(table, column) && column != KEY;
  }

  private static void needArgument(boolean right) throws IllegalArgumentException {
    if (!right) {
      throw new IllegalArgumentException();
    }
  }

  private static void needElement(boolean there) throws NoSuchElementException {
    if (!there) {
      throw new NoSuchElementException();
    }
  }

  private void refuseIf(boolean broken, int why) throws IllegalStateException {
    if (broken) {
      latestReason = why;
      throw new IllegalStateException();
    }
  }

  /** Ends a statement: the draft becomes the rows, unless a link (or NONE) keeps it or a rule is broken. */
  private void settle(int keeper) throws IllegalStateException {
    int why = keeper == NONE ? whyBroken(draft) : KEPT + keeper;
    refuseIf(why != 0, why);
    rows.become(draft);
  }

  /** The first reason for which rows can't stand, or 0. */
  private int whyBroken(Rows asked) {
    for (int i = 0; i < tableCount; i++) {
      if (asked.hasTwins(i, KEY)) {
        return SAME_KEY + i;
      }
    }
    for (int i = 0; i < singleCount; i++) {
      if (singles[i].isBroken(asked)) {
        return BROKEN_SINGLE + i;
      }
    }
    for (int i = 0; i < linkCount; i++) {
      if (links[i].isBroken(asked)) {
        return BROKEN_LINK + i;
      }
    }
    for (int i = 0; i < checkCount; i++) {
      if (checks[i].isBroken(asked)) {
        return BROKEN_CHECK + i;
      }
    }
    return 0;
  }

  private void markGoing(int table, int column, int cell) {
    for (int place = 0; place < MOST_ROWS; place++) {
      going[place] = rows.holds(place, table) && rows.at(place, column) == cell;
    }
  }

  /** Marks the rows that follow one that goes; whether there was one more. */
  private boolean spreadGoing() {
    boolean more = false;
    for (int i = 0; i < linkCount; i++) {
      for (int place = 0; place < MOST_ROWS; place++) {
        if (links[i].way == FOLLOW && !going[place] && losesTarget(links[i], place)) {
          going[place] = true;
          more = true;
        }
      }
    }
    return more;
  }

  private boolean losesTarget(Link link, int place) {
    int target = link.target(rows, place);
    return target != NONE && going[target];
  }

  private int removeGoing() {
    int went = 0;
    for (int place = 0; place < MOST_ROWS; place++) {
      if (going[place]) {
        draft.remove(place);
        went++;
      }
    }
    return went;
  }

  /** Empties the loose cells of rows that stay; the least link that keeps a row from going, or NONE. */
  private int loosenFromGoing() {
    int keeper = NONE;
    for (int i = linkCount - 1; i >= 0; i--) {
      for (int place = 0; place < MOST_ROWS; place++) {
        if (going[place] || !losesTarget(links[i], place)) {
          continue;
        }
        if (links[i].way == KEEP) {
          keeper = i;
        } else if (links[i].way == LOOSE) {
          draft.put(place, links[i].column, 0);
        }
      }
    }
    return keeper;
  }

  /**
   * Tells the rows that referred to the row in a place its new key; the least link that keeps the
   * old one, or NONE. From the last link to the first, for the least one has the last word.
   */
  private int passOnKey(int changed, int key) {
    int keeper = NONE;
    for (int i = linkCount - 1; i >= 0; i--) {
      for (int place = 0; place < MOST_ROWS; place++) {
        if (links[i].target(rows, place) != changed) {
          continue;
        }
        if (links[i].way == KEEP) {
          keeper = i;
        } else {
          draft.put(place, links[i].column, links[i].way == FOLLOW ? key : 0);
        }
      }
    }
    return keeper;
  }

  /** The rows of all tables, each in a place of its own. */
  private static final class Rows {
    private final int[] tables = new int[MOST_ROWS];
    private final int[] cells = new int[MOST_ROWS * MOST_COLUMNS];

    Rows() {
      Arrays.fill(tables, NONE);
    }

    void become(Rows other) {
      System.arraycopy(other.tables, 0, tables, 0, MOST_ROWS);
      System.arraycopy(other.cells, 0, cells, 0, MOST_ROWS * MOST_COLUMNS);
    }

    boolean holds(int place, int table) {
      return tables[place] == table;
    }

    int at(int place, int column) {
      return cells[place * MOST_COLUMNS + column];
    }

    void put(int place, int column, int value) {
      cells[place * MOST_COLUMNS + column] = value;
    }

    void add(int place, int table) {
      tables[place] = table;
    }

    void remove(int place) {
      tables[place] = NONE;
    }

    int freePlace() {
      for (int place = 0; place < MOST_ROWS; place++) {
        if (tables[place] == NONE) {
          return place;
        }
      }
      return NONE;
    }

    int size(int table) {
      int size = 0;
      for (int place = 0; place < MOST_ROWS; place++) {
        if (tables[place] == table) {
          size++;
        }
      }
      return size;
    }

    int find(int table, int key) {
      for (int place = 0; place < MOST_ROWS; place++) {
        if (tables[place] == table && at(place, KEY) == key) {
          return place;
        }
      }
      return NONE;
    }

    /** The place of the row of a table with so many lesser keys before its own, or NONE. */
    int placeOfRank(int table, int rank) {
      for (int place = 0; place < MOST_ROWS; place++) {
        if (tables[place] == table && lesserKeys(table, at(place, KEY)) == rank) {
          return place;
        }
      }
      return NONE;
    }

    private int lesserKeys(int table, int key) {
      int lesser = 0;
      for (int place = 0; place < MOST_ROWS; place++) {
        if (tables[place] == table && at(place, KEY) < key) {
          lesser++;
        }
      }
      return lesser;
    }

    /** Whether two rows of a table have the same cell in a column, other than 0. */
    boolean hasTwins(int table, int column) {
      for (int place = 1; place < MOST_ROWS; place++) {
        if (tables[place] == table && at(place, column) != 0 && hasTwinBefore(place, column)) {
          return true;
        }
      }
      return false;
    }

    private boolean hasTwinBefore(int place, int column) {
      for (int other = 0; other < place; other++) {
        if (tables[other] == tables[place] && at(other, column) == at(place, column)) {
          return true;
        }
      }
      return false;
    }
  }

  /** The rule that a cell of a child table, if it is not 0, is the key of a row of the parent table. */
  private static final class Link {
    final int child;
    final int column;
    final int parent;
    final int way;

    Link(int child, int column, int parent, int way) {
      this.child = child;
      this.column = column;
      this.parent = parent;
      this.way = way;
    }

    /** The place of the row that the row in a place refers to, or NONE. */
    int target(Rows rows, int place) {
      return refers(rows, place) ? rows.find(parent, rows.at(place, column)) : NONE;
    }

    boolean isBroken(Rows rows) {
      for (int place = 0; place < MOST_ROWS; place++) {
        if (refers(rows, place) && target(rows, place) == NONE) {
          return true;
        }
      }
      return false;
    }

    private boolean refers(Rows rows, int place) {
      return rows.holds(place, child) && rows.at(place, column) != 0;
    }
  }

  /** The rule that no two rows of a table have the same cell in a column, other than 0. */
  private static final class Single {
    private final int table;
    private final int column;

    Single(int table, int column) {
      this.table = table;
      this.column = column;
    }

    boolean isBroken(Rows rows) {
      return rows.hasTwins(table, column);
    }
  }

  /** The rule that words, worked out for a row of a table, leave anything but 0. */
  private static final class Check {
    private static final int LAST_CELL = 3;
    private static final int PLUS = 10;
    private static final int MINUS = 11;
    private static final int TIMES = 12;
    private static final int LESS = 13;
    private static final int EQUAL = 14;
    private static final int AND = 15;
    private static final int OR = 16;
    private static final int NOT = 17;
    private static final int FIRST_NUMBER = 100;
    private static final int ZERO = 200;
    private static final int LAST_NUMBER = 300;

    private final int table;
    private final int[] words;
    private final int[] pile;

    /** Takes right words alone: the pile is then never too low, nor higher than there are words. */
    Check(int table, int[] words) {
      this.table = table;
      this.words = words;
      this.pile = new int[words.length];
    }

    static boolean isWord(int w) {
      return (w >= 0 && w <= LAST_CELL)
          || (w >= PLUS && w <= NOT)
          || (w >= FIRST_NUMBER && w <= LAST_NUMBER);
    }

    static boolean areRight(int[] words, int columns) {
      int height = 0;
      for (int i = 0; i < words.length; i++) {
        int taken = taken(words[i]);
        boolean isNoColumn = words[i] <= LAST_CELL && words[i] >= columns;
        if (isNoColumn || height < taken) {
          return false;
        }
        height += 1 - taken;
      }
      return height == 1;
    }

    private static int taken(int w) {
      if (w < PLUS || w > NOT) {
        return 0;
      }
      return w == NOT ? 1 : 2;
    }

    boolean isBroken(Rows rows) {
      for (int place = 0; place < MOST_ROWS; place++) {
        if (rows.holds(place, table) && result(rows, place) == 0) {
          return true;
        }
      }
      return false;
    }

    private int result(Rows rows, int place) {
      int height = 0;
      for (int i = 0; i < words.length; i++) {
        int taken = taken(words[i]);
        height -= taken;
        pile[height] = taken == 0 ? laid(words[i], rows, place) : worked(words[i], height);
        height++;
      }
      return pile[0];
    }

    private static int laid(int w, Rows rows, int place) {
      return w <= LAST_CELL ? rows.at(place, w) : w - ZERO;
    }

    /** What a word makes of the ints that it took away: they still lie on the pile from this height on. */
    private int worked(int w, int height) {
      int x = pile[height];
      int y = w == NOT ? 0 : pile[height + 1];
      switch (w) {
        case PLUS:
          return x + y;
        case MINUS:
          return x - y;
        case TIMES:
          return x * y;
        case LESS:
          return x < y ? 1 : 0;
        case EQUAL:
          return x == y ? 1 : 0;
        case AND:
          return x != 0 && y != 0 ? 1 : 0;
        case OR:
          return x != 0 || y != 0 ? 1 : 0;
        default:
          return x == 0 ? 1 : 0;
      }
    }
  }
}
