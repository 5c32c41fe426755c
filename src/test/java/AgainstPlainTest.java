import java.util.Random;

/** Runs of calls taken by lot, always the same ones: the class answers as PlainAnswers does. */
final class AgainstPlainTest {
  private static final int RUNS = 60;
  private static final int CALLS = 512;
  private static final int[] FAR = {-2147483648, -1000, -129, -2, -1, 128, 1000, 65536, 2147483647};

  private final Random lot;
  private final Due due;
  private final KeptAnswers x = new KeptAnswers();
  private final PlainAnswers y = new PlainAnswers();
  private final int names;
  private final int tables;
  /** Runs in which VIEWS are small and ASKS are large, so that COVERS need several SHOWS. */
  private final boolean joins;

  private AgainstPlainTest(Due due, int seed) {
    this.due = due;
    lot = new Random(seed);
    names = 1 + lot.nextInt(5);
    tables = 1 + lot.nextInt(3);
    joins = lot.nextInt(3) > 0;
  }

  /** Mostly a number below most, sometimes one near by or far away. */
  private int number(int most) {
    int way = lot.nextInt(24);
    if (way == 0) return FAR[lot.nextInt(FAR.length)];
    if (way == 1) return most + lot.nextInt(2);
    return lot.nextInt(Math.max(most, 1));
  }

  private char term() {
    return lot.nextInt(joins ? 25 : 7) == 0 ? (char) ('0' + lot.nextInt(2)) : (char) ('a' + lot.nextInt(names));
  }

  private int rows(boolean isView) {
    if (!joins) return 1 + Math.min(lot.nextInt(4), lot.nextInt(5));
    return isView ? Math.max(1, lot.nextInt(6) - 2) : 1 + Math.max(lot.nextInt(4), lot.nextInt(4));
  }

  private String text(boolean isView) {
    StringBuilder text = new StringBuilder();
    int rows = rows(isView);
    String stood = "";
    for (int i = 0; i < rows; i++) {
      char first = term();
      char second = term();
      stood += (first >= 'a' ? "" + first : "") + (second >= 'a' ? "" + second : "");
      text.append(i > 0 ? "," : "").append(lot.nextInt(tables)).append(first).append(second);
    }
    int head = joins && isView ? Math.max(1, lot.nextInt(4)) : lot.nextInt(4);
    if (head > 0 && !stood.isEmpty()) {
      text.append(':');
      for (int i = 0; i < head; i++) {
        text.append(stood.charAt(lot.nextInt(stood.length())));
      }
    }
    if (lot.nextInt(6) == 0) {
      String signs = "012abcdef,:;3\u00e9\u0000";
      text.setCharAt(lot.nextInt(text.length()), signs.charAt(lot.nextInt(signs.length())));
    }
    if (lot.nextInt(12) == 0) text.append("012abcdef,:;".charAt(lot.nextInt(12)));
    if (lot.nextInt(12) == 0) text.setLength(lot.nextInt(text.length()));
    return text.toString();
  }

  private void tell() {
    boolean isView = lot.nextInt(5) < 2;
    String text = text(isView);
    for (int place = 0; place < text.length(); place += 8) {
      int n = Math.min(8, text.length() - place);
      long packed = lot.nextLong() << 8 * (n - 1) << 8;
      for (int i = 0; i < n; i++) {
        packed |= (long) text.charAt(place + i) << 8 * i;
      }
      due.is("feed(" + n + ", " + packed + ")", x.feed(n, packed), y.feed(n, packed));
    }
    if (isView) {
      due.is("view() of " + text, x.view(), y.view());
    } else {
      due.is("ask() of " + text, x.ask(), y.ask());
    }
  }

  private int ask() {
    return number(x.count(0));
  }

  private int viewOf() {
    return number(x.count(1));
  }

  private int views() {
    return number(1 << x.count(1));
  }

  private void rowCall(int call) {
    int t = number(3);
    int a = number(2);
    int b = number(2);
    boolean is = lot.nextInt(3) > 0;
    switch (call) {
      case 0: due.is("in", x.in(t, a, b), y.in(t, a, b)); break;
      case 1: due.is("out", x.out(t, a, b), y.out(t, a, b)); break;
      case 2: due.is("undo", x.undo(), y.undo()); break;
      case 3: due.is("key", x.key(t, is), y.key(t, is)); break;
      case 4: due.is("rows", x.rows(t), y.rows(t)); break;
      case 5: due.is("read", x.read(), y.read()); break;
      case 6: due.is("worlds", x.worlds(), y.worlds()); break;
      default: putRow(t, a, b);
    }
  }

  private void putRow(int t, int a, int b) {
    due.is("put", x.put(t), y.put(t));
    due.is("put", x.put(a), y.put(a));
    due.is("put", x.put(b), y.put(b));
  }

  private void askCall(int call) {
    int a = ask();
    int b = ask();
    int n = number(4);
    int v = views();
    int set = lot.nextInt(8) == 0 ? number(4096) : 1 << lot.nextInt(6) | 1 << lot.nextInt(6);
    switch (call) {
      case 0: due.is("answer", x.answer(a, false), y.answer(a, false)); break;
      case 1: due.is("steps", x.steps(a, n), y.steps(a, n)); break;
      case 2: due.is("end", x.end(a, n), y.end(a, n)); break;
      case 3: due.is("within", x.within(a, b), y.within(a, b)); break;
      case 4: due.is("same", x.same(a, b), y.same(a, b)); break;
      case 5: due.is("shows", x.shows(a), y.shows(a)); break;
      case 6: due.is("show", x.show(a, 2 * n), y.show(a, 2 * n)); break;
      case 7: due.is("cover", x.cover(a, n), y.cover(a, n)); break;
      case 8: due.is("covers", x.covers(a, set), y.covers(a, set)); break;
      case 9: due.is("may", x.may(a, v), y.may(a, v)); break;
      case 10: due.is("sure", x.sure(a, n), y.sure(a, n)); break;
      case 11: due.is("besides", x.besides(a), y.besides(a)); break;
      case 12: due.is("latest", x.latest(a), y.latest(a)); break;
      default: due.is("plan", x.plan(a), y.plan(a));
    }
  }

  private void otherCall(int call) {
    int v = viewOf();
    int a = number(lot.nextInt(4) == 0 ? 1000 : 100);
    int b = number(100);
    boolean is = lot.nextInt(3) > 0;
    switch (call) {
      case 0: due.is("answer", x.answer(v, true), y.answer(v, true)); break;
      case 1: due.is("keep", x.keep(v, is), y.keep(v, is)); break;
      case 2: due.is("weight", x.weight(v, b), y.weight(v, b)); break;
      case 3: due.is("size", x.size(v, a, b), y.size(v, a, b)); break;
      case 4: due.is("set", x.set(v, a), y.set(v, a)); break;
      case 5: due.is("hours", x.hours(v, a / 2, b), y.hours(v, a / 2, b)); break;
      case 6: due.is("given", x.given(v, is), y.given(v, is)); break;
      case 7: due.is("feed", x.feed(b / 9, a), y.feed(b / 9, a)); break;
      case 8: due.is("put", x.put(a), y.put(a)); break;
      default: imageCall(is, views());
    }
  }

  private void imageCall(boolean is, int views) {
    int way = lot.nextInt(10);
    if (way == 0) due.is("image", x.image(), y.image());
    if (way == 1) due.is("restore", x.restore(), y.restore());
    if (way > 1 && way < 5) due.is("cost", x.cost(views), y.cost(views));
    if (way > 4 && way < 7) due.is("which", x.which(is ? 0 : 1), y.which(is ? 0 : 1));
    if (way == 7) due.is("which", x.which(views), y.which(views));
  }

  private void call() {
    int way = lot.nextInt(40);
    if (way < 4) {
      tell();
    } else if (way < 12) {
      rowCall(Math.min(lot.nextInt(9), lot.nextInt(9)));
    } else if (way < 28) {
      askCall(lot.nextInt(14));
    } else if (way < 38) {
      otherCall(lot.nextInt(10));
    } else {
      int what = number(20);
      due.is("count(" + what + ")", x.count(what), y.count(what));
    }
  }

  public static void main(String[] args) {
    Due due = new Due("AgainstPlainTest");
    int runs = args.length > 0 ? Integer.parseInt(args[0]) : RUNS;
    int first = args.length > 1 ? Integer.parseInt(args[1]) : 1;
    for (int run = first; run < first + runs; run++) {
      AgainstPlainTest test = new AgainstPlainTest(due, run);
      for (int i = 0; i < CALLS; i++) {
        test.call();
      }
      for (int what = 0; what < 18; what++) {
        due.is("run " + run + " count(" + what + ")", test.x.count(what), test.y.count(what));
      }
    }
    due.close();
  }
}
