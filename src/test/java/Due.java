import java.nio.charset.StandardCharsets;

/** Counts the calls of a test whose answer is not the one that is due. */
final class Due {
  private final String name;
  private int calls;
  private int wrong;

  Due(String name) {
    this.name = name;
  }

  void is(String call, long got, long want) {
    calls++;
    if (got != want) {
      wrong++;
      System.out.println(name + ": " + call + " answered " + got + ", due is " + want);
    }
  }

  /** Tells how it went, and ends the run if something was wrong. */
  void close() {
    System.out.println(name + ": " + calls + " answers, " + wrong + " not as due");
    if (wrong != 0 || calls == 0) {
      System.exit(1);
    }
  }

  /** Feeds a text whose bytes are told by letters, eight at a time. */
  static void feed(KeptAnswers x, String text) {
    byte[] bytes = text.getBytes(StandardCharsets.ISO_8859_1);
    for (int place = 0; place < bytes.length; place += 8) {
      int n = Math.min(8, bytes.length - place);
      long packed = 0;
      for (int i = n - 1; i >= 0; i--) {
        packed = packed << 8 | bytes[place + i] & 255;
      }
      x.feed(n, packed);
    }
  }

  static int ask(KeptAnswers x, String text) {
    feed(x, text);
    return x.ask();
  }

  static int view(KeptAnswers x, String text) {
    feed(x, text);
    return x.view();
  }

  /** A new object with VIEWS and ASKS, in order. */
  static KeptAnswers with(String[] views, String... asks) {
    KeptAnswers x = new KeptAnswers();
    for (String view : views) {
      view(x, view);
    }
    for (String ask : asks) {
      ask(x, ask);
    }
    return x;
  }

  static String[] views(String... views) {
    return views;
  }

  /** How many REFUSALS of each number there were, -1 the first. */
  static String refusals(KeptAnswers x) {
    StringBuilder all = new StringBuilder();
    for (int what = 11; what <= 16; what++) {
      all.append(what > 11 ? " " : "").append(x.count(what));
    }
    return all.toString();
  }

  void refusals(KeptAnswers x, String want) {
    is("refusals " + refusals(x) + " for " + want, refusals(x).equals(want) ? 1 : 0, 1);
  }
}
