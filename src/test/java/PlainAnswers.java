import java.util.ArrayDeque;
import java.util.ArrayList;
import java.util.Deque;
import java.util.HashMap;
import java.util.HashSet;
import java.util.LinkedHashSet;
import java.util.List;
import java.util.Map;
import java.util.Set;
import java.util.TreeSet;

/**
 * The document once more, written as slowly as it reads: TERMS are letters, tables are sets of rows,
 * all worlds are made one by one and all sets are tried. AgainstPlainTest compares it with the class.
 */
final class PlainAnswers {
  /** ROWS such as "0ab", and HEAD as letters. */
  record Picture(List<String> rows, String head) {}

  /** A picture after its STEPS. */
  record End(List<String> rows, String head, int steps, boolean nothing) {}

  record Show(int view, String terms) implements Comparable<Show> {
    public int compareTo(Show other) {
      return view != other.view ? view - other.view : terms.compareTo(other.terms);
    }
  }

  /** A change: a row, and whether it came in. */
  record Change(String row, boolean came) {}

  /** All that an image holds. */
  static final class All {
    Set<String> rows = new HashSet<>();
    boolean[] keys = new boolean[3];
    List<Picture> asks = new ArrayList<>();
    List<Picture> views = new ArrayList<>();
    Map<Integer, Integer> kept = new HashMap<>();
    Set<Integer> given = new HashSet<>();
    int[] weights = new int[10];
    int[][] sizes = new int[6][2];
    int[][] hours = new int[6][2];
    int room = 99;
    int away = 10;

    All copy() {
      All other = new All();
      other.rows = new HashSet<>(rows);
      other.keys = keys.clone();
      other.asks = new ArrayList<>(asks);
      other.views = new ArrayList<>(views);
      other.kept = new HashMap<>(kept);
      other.given = new HashSet<>(given);
      other.weights = weights.clone();
      for (int i = 0; i < 6; i++) {
        other.sizes[i] = sizes[i].clone();
        other.hours[i] = hours[i].clone();
      }
      other.room = room;
      other.away = away;
      return other;
    }
  }

  private All all = new All();
  private All taken = null;
  private String text = "";
  private final List<Integer> book = new ArrayList<>();
  private final Deque<Change> changes = new ArrayDeque<>();
  private final int[] refusals = new int[7];

  private int no(int number) {
    refusals[-number]++;
    return number;
  }

  private static String row(int table, int x, int y) {
    return "" + table + x + y;
  }

  private boolean breaks(String row) {
    String other = row.substring(0, 2) + (row.charAt(2) == '0' ? '1' : '0');
    return all.keys[row.charAt(0) - '0'] && all.rows.contains(other);
  }

  private void change(String row, boolean comes) {
    if (comes) {
      all.rows.add(row);
    } else {
      all.rows.remove(row);
    }
    changes.addLast(new Change(row, comes));
    if (changes.size() > 40) {
      changes.removeFirst();
    }
  }

  int in(int table, int x, int y) {
    if (table < 0 || table > 2) return no(-1);
    if (x < 0 || y < 0) return no(-4);
    if (x > 1 || y > 1) return no(-6);
    String row = row(table, x, y);
    if (all.rows.contains(row)) return 0;
    if (breaks(row)) return no(-3);
    change(row, true);
    return 1;
  }

  int out(int table, int x, int y) {
    if (table < 0 || table > 2) return no(-1);
    if (x < 0 || y < 0) return no(-4);
    if (x > 1 || y > 1) return no(-6);
    String row = row(table, x, y);
    if (!all.rows.contains(row)) return 0;
    change(row, false);
    return 1;
  }

  int undo() {
    if (changes.isEmpty()) return no(-3);
    Change last = changes.peekLast();
    if (last.came()) {
      all.rows.remove(last.row());
    } else {
      if (breaks(last.row())) return no(-3);
      all.rows.add(last.row());
    }
    changes.removeLast();
    return 1;
  }

  int key(int table, boolean is) {
    if (table < 0 || table > 2) return no(-1);
    if (all.keys[table] == is) return 0;
    if (is) {
      for (int x = 0; x < 2; x++) {
        if (all.rows.contains(row(table, x, 0)) && all.rows.contains(row(table, x, 1))) return no(-3);
      }
    }
    all.keys[table] = is;
    return 1;
  }

  int rows(int table) {
    if (table < 0 || table > 2) return no(-1);
    int bits = 0;
    for (int x = 0; x < 2; x++) {
      for (int y = 0; y < 2; y++) {
        if (all.rows.contains(row(table, x, y))) bits |= 1 << (2 * x + y);
      }
    }
    return bits;
  }

  int put(int v) {
    if (v < -128) return no(-4);
    if (v > 127 || book.size() == 60) return no(-6);
    book.add(v);
    return book.size();
  }

  int read() {
    int came = 0;
    for (int i = 0; i + 2 < book.size(); i += 3) {
      int t = book.get(i);
      int x = book.get(i + 1);
      int y = book.get(i + 2);
      if (t < 0 || t > 2 || x < 0 || x > 1 || y < 0 || y > 1) break;
      if (all.rows.contains(row(t, x, y))) continue;
      if (breaks(row(t, x, y))) break;
      change(row(t, x, y), true);
      came++;
    }
    book.clear();
    return came;
  }

  int feed(int n, long bytes) {
    if (n < 1) return no(-4);
    if (n > 8 || text.length() + n > 24) return no(-6);
    for (int i = 0; i < n; i++) {
      text += (char) (bytes >>> 8 * i & 255);
    }
    return text.length();
  }

  /** The longest beginnings of what may stand, tried byte by byte: the place of the FAULT, or -1. */
  static int fault(String text) {
    for (int i = 0; i < text.length(); i++) {
      if (!mayBegin(text.substring(0, i + 1))) return i;
    }
    return isWhole(text) ? -1 : text.length();
  }

  private static boolean mayBegin(String text) {
    String row = "[0-2][01a-e][01a-e]";
    if (text.matches("(" + row + ",){0,3}([0-2][01a-e]?)?")) return true;
    if (text.matches("(" + row + ",){0,3}" + row + ",?")) return true;
    return text.matches("(" + row + ",){0,3}" + row + ":[a-e]{0,3}") && headStands(text);
  }

  private static boolean isWhole(String text) {
    String row = "[0-2][01a-e][01a-e]";
    return text.matches("(" + row + ",){0,3}" + row + "(:[a-e]{1,3})?");
  }

  private static boolean headStands(String text) {
    String rows = text.substring(0, text.indexOf(':'));
    for (char name : text.substring(text.indexOf(':') + 1).toCharArray()) {
      if (rows.indexOf(name) < 0) return false;
    }
    return true;
  }

  private static Picture picture(String text) {
    String[] parts = text.split(":");
    return new Picture(List.of(parts[0].split(",")), parts.length > 1 ? parts[1] : "");
  }

  int ask() {
    if (all.asks.size() == 10) return no(-6);
    int fault = fault(text);
    if (fault < 0) all.asks.add(picture(text));
    text = "";
    return fault < 0 ? all.asks.size() - 1 : -20 - fault;
  }

  int view() {
    if (all.views.size() == 6) return no(-6);
    int fault = fault(text);
    if (fault < 0) all.views.add(picture(text));
    text = "";
    return fault < 0 ? all.views.size() - 1 : -20 - fault;
  }

  private boolean isAsk(int ask) {
    return ask >= 0 && ask < all.asks.size();
  }

  private boolean isView(int view) {
    return view >= 0 && view < all.views.size();
  }

  private boolean areViews(int views) {
    return views >= 0 && views < 1 << all.views.size();
  }

  private static String led(String terms, Map<Character, Character> to) {
    StringBuilder led = new StringBuilder();
    for (char term : terms.toCharArray()) {
      led.append(to.getOrDefault(term, term));
    }
    return led.toString();
  }

  private static String ledRow(String row, Map<Character, Character> to) {
    return row.charAt(0) + led(row.substring(1), to);
  }

  private static List<Character> names(Picture p) {
    TreeSet<Character> names = new TreeSet<>();
    for (String row : p.rows()) {
      for (char term : row.substring(1).toCharArray()) {
        if (term >= 'a') names.add(term);
      }
    }
    return new ArrayList<>(names);
  }

  private static int answerIn(Picture p, Set<String> rows) {
    List<Character> names = names(p);
    int answer = 0;
    for (int values = 0; values < 1 << names.size(); values++) {
      Map<Character, Character> to = new HashMap<>();
      for (int i = 0; i < names.size(); i++) {
        to.put(names.get(i), (char) ('0' + (values >> i & 1)));
      }
      boolean isSo = true;
      for (String row : p.rows()) {
        isSo &= rows.contains(ledRow(row, to));
      }
      String head = led(p.head(), to);
      int bit = 0;
      for (int i = 0; i < head.length(); i++) {
        bit += head.charAt(i) == '1' ? 1 << i : 0;
      }
      if (isSo) answer |= 1 << bit;
    }
    return answer;
  }

  int answer(int number, boolean view) {
    if (view ? !isView(number) : !isAsk(number)) return no(-1);
    return answerIn(view ? all.views.get(number) : all.asks.get(number), all.rows);
  }

  private End endOf(List<String> told, String toldHead) {
    List<String> rows = new ArrayList<>(new LinkedHashSet<>(told));
    String head = toldHead;
    int steps = 0;
    while (true) {
      String[] pair = null;
      for (int i = 0; i < rows.size() && pair == null; i++) {
        for (int j = i + 1; j < rows.size() && pair == null; j++) {
          String a = rows.get(i);
          String b = rows.get(j);
          boolean alike = a.charAt(0) == b.charAt(0) && a.charAt(1) == b.charAt(1);
          if (alike && a.charAt(2) != b.charAt(2) && all.keys[a.charAt(0) - '0']) {
            pair = new String[] {a, b};
          }
        }
      }
      if (pair == null) return new End(rows, head, steps, false);
      char a = pair[0].charAt(2);
      char b = pair[1].charAt(2);
      if (a < 'a' && b < 'a') return new End(rows, head, steps, true);
      Map<Character, Character> to = new HashMap<>();
      boolean firstStays = a < 'a' || b >= 'a' && a < b;
      to.put(firstStays ? b : a, firstStays ? a : b);
      List<String> next = new ArrayList<>();
      for (String row : rows) {
        next.add(ledRow(row, to));
      }
      rows = new ArrayList<>(new LinkedHashSet<>(next));
      head = led(head, to);
      steps++;
    }
  }

  private End endOf(int ask) {
    return endOf(all.asks.get(ask).rows(), all.asks.get(ask).head());
  }

  /** All ways to lead NAMES of p to TERMS of rows (each ROW to a ROW). */
  private static List<Map<Character, Character>> ways(Picture p, List<String> rows) {
    Set<Character> terms = new TreeSet<>();
    for (String row : rows) {
      terms.add(row.charAt(1));
      terms.add(row.charAt(2));
    }
    List<Map<Character, Character>> found = new ArrayList<>();
    lead(p, names(p), 0, new HashMap<>(), new HashSet<>(rows), terms, found);
    return found;
  }

  private static void lead(Picture p, List<Character> names, int next, Map<Character, Character> to,
      Set<String> rows, Set<Character> terms, List<Map<Character, Character>> found) {
    for (String row : p.rows()) {
      boolean whole = true;
      for (char term : row.substring(1).toCharArray()) {
        whole &= term < 'a' || to.containsKey(term);
      }
      if (whole && !rows.contains(ledRow(row, to))) return;
    }
    if (next == names.size()) {
      found.add(new HashMap<>(to));
      return;
    }
    for (char term : terms) {
      to.put(names.get(next), term);
      lead(p, names, next + 1, to, rows, terms, found);
      to.remove(names.get(next));
    }
  }

  private static boolean lies(End p, Picture q) {
    if (p.head().length() != q.head().length()) return false;
    if (p.nothing()) return true;
    for (Map<Character, Character> way : ways(q, p.rows())) {
      if (led(q.head(), way).equals(p.head())) return true;
    }
    return false;
  }

  int steps(int ask, int what) {
    if (!isAsk(ask)) return no(-1);
    if (what < 0 || what > 3) return no(-2);
    End end = endOf(ask);
    return new int[] {end.steps(), end.nothing() ? 1 : 0, end.rows().size(), end.head().length()}[what];
  }

  private static int digit(char term) {
    return term < 'a' ? term - '0' : term - 'a' + 2;
  }

  int end(int ask, int i) {
    if (!isAsk(ask)) return no(-1);
    End end = endOf(ask);
    if (end.nothing()) return no(-3);
    if (i < 0 || i >= end.rows().size()) return -9;
    String row = end.rows().get(i);
    return 100 * digit(row.charAt(0)) + 10 * digit(row.charAt(1)) + digit(row.charAt(2));
  }

  int within(int a, int b) {
    if (!isAsk(a) || !isAsk(b)) return no(-1);
    return lies(endOf(a), all.asks.get(b)) ? 1 : 0;
  }

  int same(int a, int b) {
    if (!isAsk(a) || !isAsk(b)) return no(-1);
    return lies(endOf(a), all.asks.get(b)) && lies(endOf(b), all.asks.get(a)) ? 1 : 0;
  }

  /** All SHOWS, however many. */
  private List<Show> showsOf(int ask) {
    End end = endOf(ask);
    TreeSet<Show> shows = new TreeSet<>();
    for (int view = 0; view < all.views.size() && !end.nothing(); view++) {
      for (Map<Character, Character> way : ways(all.views.get(view), end.rows())) {
        shows.add(new Show(view, led(all.views.get(view).head(), way)));
      }
    }
    return new ArrayList<>(shows);
  }

  int shows(int ask) {
    if (!isAsk(ask)) return no(-1);
    int many = showsOf(ask).size();
    return many > 12 ? no(-5) : many;
  }

  int show(int ask, int i) {
    if (!isAsk(ask)) return no(-1);
    List<Show> shows = showsOf(ask);
    if (shows.size() > 12) return no(-5);
    if (i < 0 || i >= shows.size()) return no(-1);
    int number = 0;
    for (int place = shows.get(i).terms().length() - 1; place >= 0; place--) {
      number = 10 * number + digit(shows.get(i).terms().charAt(place)) + 1;
    }
    return 1000 * shows.get(i).view() + number;
  }

  private boolean isCover(int ask, List<Show> shows, int set) {
    End end = endOf(ask);
    if (end.nothing()) return set == 0;
    if (set == 0) return false;
    List<String> rows = new ArrayList<>();
    String shown = "";
    char fresh = 'f';
    for (int i = 0; i < shows.size(); i++) {
      if ((set >> i & 1) == 0) continue;
      Picture view = all.views.get(shows.get(i).view());
      Map<Character, Character> to = new HashMap<>();
      for (char name : names(view)) {
        int place = view.head().indexOf(name);
        to.put(name, place < 0 ? fresh++ : shows.get(i).terms().charAt(place));
      }
      for (String row : view.rows()) {
        rows.add(ledRow(row, to));
      }
      shown += shows.get(i).terms();
    }
    for (char term : end.head().toCharArray()) {
      if (term >= 'a' && shown.indexOf(term) < 0) return false;
    }
    return lies(endOf(rows, end.head()), all.asks.get(ask));
  }

  /** All COVERS, the ones of few SHOWS first, then by bits. */
  private List<Integer> coversOf(int ask) {
    List<Show> shows = showsOf(ask);
    List<Integer> covers = new ArrayList<>();
    for (int many = 0; many <= 3; many++) {
      for (int set = 0; set < 1 << shows.size(); set++) {
        if (Integer.bitCount(set) == many && isCover(ask, shows, set)) covers.add(set);
      }
    }
    return covers;
  }

  int cover(int ask, int what) {
    if (!isAsk(ask)) return no(-1);
    if (what < 0 || what > 2) return no(-2);
    if (showsOf(ask).size() > 12) return no(-5);
    List<Integer> covers = coversOf(ask);
    if (covers.isEmpty()) return -9;
    int least = Integer.bitCount(covers.get(0));
    int many = 0;
    for (int set : covers) {
      many += Integer.bitCount(set) == least ? 1 : 0;
    }
    return what == 0 ? least : what == 1 ? covers.get(0) : many;
  }

  int covers(int ask, int set) {
    if (!isAsk(ask)) return no(-1);
    List<Show> shows = showsOf(ask);
    if (shows.size() > 12) return no(-5);
    if (set < 0 || set >= 1 << shows.size()) return no(-1);
    if (Integer.bitCount(set) > 3) return no(-6);
    return isCover(ask, shows, set) ? 1 : 0;
  }

  private Set<Integer> viewsOf(int ask, int set) {
    Set<Integer> views = new TreeSet<>();
    List<Show> shows = showsOf(ask);
    for (int i = 0; i < shows.size(); i++) {
      if ((set >> i & 1) != 0) views.add(shows.get(i).view());
    }
    return views;
  }

  /** The sets of VIEWS (bits) of all COVERS. */
  private Set<Integer> coveringViews(int ask) {
    Set<Integer> found = new TreeSet<>();
    for (int set : coversOf(ask)) {
      int bits = 0;
      for (int view : viewsOf(ask, set)) {
        bits |= 1 << view;
      }
      found.add(bits);
    }
    return found;
  }

  private static boolean covered(Set<Integer> covering, int views) {
    for (int set : covering) {
      if ((set & ~views) == 0) return true;
    }
    return false;
  }

  int may(int ask, int views) {
    if (!isAsk(ask)) return no(-1);
    if (!areViews(views)) return no(-1);
    if (showsOf(ask).size() > 12) return no(-5);
    return covered(coveringViews(ask), views) ? 1 : 0;
  }

  int keep(int view, boolean on) {
    if (!isView(view)) return no(-1);
    if (!on) {
      all.kept.remove(view);
      return -9;
    }
    all.kept.put(view, answerIn(all.views.get(view), all.rows));
    return all.kept.get(view);
  }

  private List<Set<String>> worldsOf() {
    List<Set<String>> found = new ArrayList<>();
    for (int bits = 0; bits < 4096; bits++) {
      Set<String> world = new HashSet<>();
      for (int i = 0; i < 12; i++) {
        if ((bits >> i & 1) != 0) world.add(row(i / 4, i / 2 % 2, i % 2));
      }
      boolean holds = true;
      for (int table = 0; table < 3; table++) {
        for (int x = 0; x < 2; x++) {
          boolean both = world.contains(row(table, x, 0)) && world.contains(row(table, x, 1));
          holds &= !(all.keys[table] && both);
        }
      }
      for (int view : all.kept.keySet()) {
        holds = holds && answerIn(all.views.get(view), world) == all.kept.get(view);
      }
      if (holds) found.add(world);
    }
    return found;
  }

  int worlds() {
    return worldsOf().size();
  }

  int sure(int ask, int what) {
    if (!isAsk(ask)) return no(-1);
    if (what < 0 || what > 1) return no(-2);
    List<Set<String>> worlds = worldsOf();
    if (worlds.isEmpty()) return -9;
    int surely = -1;
    int could = 0;
    for (Set<String> world : worlds) {
      int answer = answerIn(all.asks.get(ask), world);
      surely &= answer;
      could |= answer;
    }
    return what == 0 ? surely : could;
  }

  int besides(int ask) {
    if (!isAsk(ask)) return no(-1);
    List<Set<String>> worlds = worldsOf();
    List<int[]> told = new ArrayList<>();
    for (Set<String> world : worlds) {
      int agreeing = 0;
      for (int view = 0; view < all.views.size(); view++) {
        Picture p = all.views.get(view);
        agreeing |= answerIn(p, world) == answerIn(p, all.rows) ? 1 << view : 0;
      }
      told.add(new int[] {agreeing, answerIn(all.asks.get(ask), world)});
    }
    int best = -9;
    for (int set = 0; set < 1 << all.views.size(); set++) {
      boolean others = true;
      for (int view : all.kept.keySet()) {
        others &= (set >> view & 1) == 0;
      }
      Set<Integer> answers = new HashSet<>();
      for (int[] world : told) {
        if ((set & ~world[0]) == 0) answers.add(world[1]);
      }
      boolean fewer = best < 0 || Integer.bitCount(set) < Integer.bitCount(best);
      if (others && answers.size() == 1 && fewer) best = set;
    }
    return best;
  }

  int weight(int ask, int v) {
    if (!isAsk(ask)) return no(-1);
    if (v < 0) return no(-4);
    if (v > 99) return no(-6);
    int was = all.weights[ask];
    all.weights[ask] = v;
    return was;
  }

  int size(int view, int size, int mend) {
    if (!isView(view)) return no(-1);
    if (size < 0 || mend < 0) return no(-4);
    if (size > 99 || mend > 99) return no(-6);
    all.sizes[view] = new int[] {size, mend};
    return 1;
  }

  int set(int what, int v) {
    if (what < 0 || what > 1) return no(-2);
    if (v < 0) return no(-4);
    if (v > (what == 0 ? 999 : 99)) return no(-6);
    int was = what == 0 ? all.room : all.away;
    if (what == 0) {
      all.room = v;
    } else {
      all.away = v;
    }
    return was;
  }

  private int over(int views, int part) {
    int sum = 0;
    for (int view = 0; view < 6; view++) {
      sum += (views >> view & 1) * all.sizes[view][part];
    }
    return sum;
  }

  private boolean isAnySpent() {
    for (int ask = 0; ask < all.asks.size(); ask++) {
      if (showsOf(ask).size() > 12) return true;
    }
    return false;
  }

  private int costOf(int views, List<Set<Integer>> covering) {
    int sum = over(views, 1);
    for (int ask = 0; ask < all.asks.size(); ask++) {
      sum += all.weights[ask] * (covered(covering.get(ask), views) ? 1 : all.away);
    }
    return sum;
  }

  private List<Set<Integer>> coveringOfAll() {
    List<Set<Integer>> covering = new ArrayList<>();
    for (int ask = 0; ask < all.asks.size(); ask++) {
      covering.add(coveringViews(ask));
    }
    return covering;
  }

  int cost(int views) {
    if (!areViews(views)) return no(-1);
    if (isAnySpent()) return no(-5);
    return costOf(views, coveringOfAll());
  }

  int which(int what) {
    if (what < 0 || what > 1) return no(-2);
    if (isAnySpent()) return no(-5);
    List<Set<Integer>> covering = coveringOfAll();
    int best = 0;
    for (int views = 0; views < 1 << all.views.size(); views++) {
      int[] a = {costOf(views, covering), Integer.bitCount(views), views};
      int[] b = {costOf(best, covering), Integer.bitCount(best), best};
      if (over(views, 0) <= all.room && java.util.Arrays.compare(a, b) < 0) best = views;
    }
    return what == 0 ? best : costOf(best, covering);
  }

  int hours(int view, int from, int to) {
    if (!isView(view)) return no(-1);
    if (from < 0 || to < 0) return no(-4);
    if (from > 99 || to > 99) return no(-6);
    if (to < from) return no(-3);
    all.hours[view] = new int[] {from, to};
    return 1;
  }

  int latest(int ask) {
    if (!isAsk(ask)) return no(-1);
    if (showsOf(ask).size() > 12) return no(-5);
    Set<Integer> covering = coveringViews(ask);
    for (int hour = 99; hour >= 0; hour--) {
      for (int set : covering) {
        boolean all6 = true;
        for (int view = 0; view < 6; view++) {
          boolean can = all.hours[view][0] <= hour && hour <= all.hours[view][1];
          all6 &= (set >> view & 1) == 0 || can;
        }
        if (all6) return hour;
      }
    }
    return -9;
  }

  int given(int view, boolean is) {
    if (!isView(view)) return no(-1);
    if (all.views.get(view).head().isEmpty()) return no(-3);
    return (is ? all.given.add(view) : all.given.remove(view)) ? 1 : 0;
  }

  int plan(int ask) {
    if (!isAsk(ask)) return no(-1);
    List<Show> shows = showsOf(ask);
    if (shows.size() > 12) return no(-5);
    for (int set : coversOf(ask)) {
      List<Integer> asked = new ArrayList<>();
      String known = "01";
      for (int turn = 0; turn < 3; turn++) {
        for (int i = 0; i < shows.size(); i++) {
          Show show = shows.get(i);
          boolean open = !all.given.contains(show.view()) || known.indexOf(show.terms().charAt(0)) >= 0;
          if ((set >> i & 1) != 0 && !asked.contains(i) && open) {
            asked.add(i);
            known += show.terms();
            break;
          }
        }
      }
      if (asked.size() == Integer.bitCount(set)) {
        int number = 0;
        for (int i = asked.size() - 1; i >= 0; i--) {
          number = 13 * number + asked.get(i) + 1;
        }
        return number;
      }
    }
    return -9;
  }

  int image() {
    taken = all.copy();
    return all.views.size();
  }

  int restore() {
    if (taken == null) return no(-3);
    all = taken.copy();
    changes.clear();
    return all.views.size();
  }

  int count(int what) {
    int keys = 0;
    for (boolean key : all.keys) {
      keys += key ? 1 : 0;
    }
    switch (what) {
      case 0: return all.asks.size();
      case 1: return all.views.size();
      case 2: return all.rows.size();
      case 3: return keys;
      case 4: return all.kept.size();
      case 5: return text.length();
      case 6: return book.size();
      case 7: return changes.size();
      default: return what >= 11 && what <= 16 ? refusals[what - 10] : -9;
    }
  }
}
