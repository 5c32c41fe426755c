import java.util.Arrays;
import java.util.function.ToIntFunction;

/** A refused call changes nothing but how many REFUSALS of its number there were. */
final class RefusalsTest {
  private final Due due = new Due("RefusalsTest");
  /** The VIEW 3 of the objects that calls are tried on. */
  private String view3 = "2ab";

  /** An object with 10 ASKS, 6 VIEWS, 60 bytes of the BOOK, and a TEXT of 21 bytes that has a FAULT. */
  private KeptAnswers full() {
    KeptAnswers x = Due.with(Due.views("0ab:ab", "1ab:a", "0ab,1ac:ab", view3, "2ab:b", "1ab:ab"),
        "0ab,1ac:ab", "000,001", "2ab:a", "0ab,0bc,0cd,0de", "1ab,1bc,1cd,1de", "0ab", "0ab", "0ab", "0ab", "0ab");
    x.key(0, true);
    x.in(0, 1, 0);
    x.in(1, 1, 1);
    x.in(1, 1, 0);
    x.in(0, 0, 1);
    x.key(0, false);
    x.out(0, 0, 1);
    x.in(0, 0, 0);
    x.out(0, 0, 0);
    x.in(0, 0, 1);
    x.key(0, true);
    x.image();
    for (int i = 0; i < 60; i++) {
      x.put(i % 2);
    }
    Due.feed(x, "0ab,0bc,0cd:abcdefghi");
    for (int i = 0; i < 10; i++) {
      x.weight(i, i);
    }
    for (int i = 0; i < 6; i++) {
      x.size(i, 3 * i, 2 * i);
      x.hours(i, i, 20 - i);
      x.given(i, i % 2 == 0);
    }
    x.keep(0, true);
    return x;
  }

  private void tableCalls() {
    refused(-1, "in", x -> x.in(3, 0, 0));
    refused(-4, "in", x -> x.in(0, -1, 0));
    refused(-6, "in", x -> x.in(0, 0, 2));
    refused(-3, "in", x -> x.in(0, 0, 0));
    refused(-1, "out", x -> x.out(-1, 0, 0));
    refused(-4, "out", x -> x.out(0, 1, -1));
    refused(-6, "out", x -> x.out(0, 2, 0));
    refused(-1, "key", x -> x.key(3, true));
    refused(-3, "key", x -> x.key(1, true));
    refused(-1, "rows", x -> x.rows(3));
    refused(-4, "put", x -> x.put(-129));
    refused(-6, "put", x -> x.put(128));
    refused(-6, "put", x -> x.put(0));
    refused(-4, "feed", x -> x.feed(0, 65L));
    refused(-6, "feed", x -> x.feed(9, 65L));
    refused(-6, "feed", x -> x.feed(4, 65L));
    refused(-6, "ask", x -> x.ask());
    refused(-6, "view", x -> x.view());
  }

  private void askCalls() {
    refused(-1, "answer", x -> x.answer(10, false));
    refused(-1, "answer", x -> x.answer(6, true));
    refused(-1, "steps", x -> x.steps(10, 0));
    refused(-2, "steps", x -> x.steps(0, 4));
    refused(-1, "end", x -> x.end(-1, 0));
    refused(-3, "end", x -> x.end(1, 0));
    refused(-1, "within", x -> x.within(0, 10));
    refused(-1, "same", x -> x.same(10, 0));
    refused(-1, "shows", x -> x.shows(10));
    refused(-1, "show", x -> x.show(0, 12));
    refused(-1, "cover", x -> x.cover(10, 0));
    refused(-2, "cover", x -> x.cover(0, 3));
    refused(-1, "covers", x -> x.covers(0, -1));
    refused(-6, "covers", x -> x.covers(0, 15));
    refused(-1, "may", x -> x.may(0, 64));
    refused(-1, "keep", x -> x.keep(6, true));
    refused(-1, "sure", x -> x.sure(10, 0));
    refused(-2, "sure", x -> x.sure(0, 2));
    refused(-1, "besides", x -> x.besides(10));
    refused(-1, "latest", x -> x.latest(10));
    refused(-1, "plan", x -> x.plan(10));
  }

  private void weekCalls() {
    refused(-1, "weight", x -> x.weight(10, 1));
    refused(-4, "weight", x -> x.weight(0, -1));
    refused(-6, "weight", x -> x.weight(0, 100));
    refused(-1, "size", x -> x.size(6, 1, 1));
    refused(-4, "size", x -> x.size(0, 50, -1));
    refused(-6, "size", x -> x.size(0, 50, 100));
    refused(-2, "set", x -> x.set(2, 1));
    refused(-4, "set", x -> x.set(0, -1));
    refused(-6, "set", x -> x.set(1, 100));
    refused(-1, "cost", x -> x.cost(64));
    refused(-2, "which", x -> x.which(2));
    refused(-1, "hours", x -> x.hours(6, 1, 1));
    refused(-4, "hours", x -> x.hours(0, -1, 50));
    refused(-6, "hours", x -> x.hours(0, 50, 100));
    refused(-3, "hours", x -> x.hours(0, 50, 49));
    refused(-1, "given", x -> x.given(6, true));
    refused(-3, "given", x -> x.given(3, true));
  }

  private void spentCalls() {
    refused(-5, "shows", x -> x.shows(4));
    refused(-5, "show", x -> x.show(4, 0));
    refused(-5, "cover", x -> x.cover(4, 0));
    refused(-5, "covers", x -> x.covers(4, 1));
    refused(-5, "may", x -> x.may(4, 1));
    refused(-5, "cost", x -> x.cost(1));
    refused(-5, "which", x -> x.which(0));
    refused(-5, "latest", x -> x.latest(4));
    refused(-5, "plan", x -> x.plan(4));
  }

  /** All that can be asked without a change, but for REFUSALS (taken in a fixed order, all the same). */
  private static String seen(KeptAnswers x) {
    StringBuilder all = new StringBuilder();
    for (int what = 0; what < 8; what++) {
      all.append(x.count(what)).append(' ');
    }
    for (int ask = 0; ask < x.count(0); ask++) {
      all.append('/').append(x.answer(ask, false)).append(' ').append(x.steps(ask, 0)).append(' ');
      all.append(x.sure(ask, 0)).append(' ').append(x.sure(ask, 1)).append(' ').append(x.besides(ask)).append(' ');
      if (x.shows(ask) >= 0) {
        all.append(x.cover(ask, 1)).append(' ').append(x.latest(ask)).append(' ').append(x.plan(ask));
      }
    }
    for (int table = 0; table < 3; table++) {
      all.append('/').append(x.rows(table));
    }
    for (int views = 0; views < 1 << x.count(1); views++) {
      all.append(' ').append(x.cost(views));
    }
    return all.append(' ').append(x.worlds()).append(' ').append(x.which(1)).toString();
  }

  private static int[] counts(KeptAnswers x) {
    int[] counts = new int[7];
    for (int i = 1; i < counts.length; i++) {
      counts[i] = x.count(10 + i);
    }
    return counts;
  }

  private void refused(int number, String name, ToIntFunction<KeptAnswers> call) {
    refused(full(), number, name, call);
  }

  private void refused(KeptAnswers x, int number, String name, ToIntFunction<KeptAnswers> call) {
    String before = seen(x);
    int[] counts = counts(x);
    due.is(name, call.applyAsInt(x), number);
    counts[-number]++;
    due.is(name + " " + number + ": REFUSALS", Arrays.equals(counts, counts(x)) ? 1 : 0, 1);
    due.is(name + " " + number + ": all else", before.equals(seen(x)) ? 1 : 0, 1);
  }

  public static void main(String[] args) {
    RefusalsTest test = new RefusalsTest();
    test.tableCalls();
    test.askCalls();
    test.weekCalls();
    test.view3 = "1ab,1cd:ac";
    test.spentCalls();
    test.refused(new KeptAnswers(), -3, "undo", x -> x.undo());
    test.refused(new KeptAnswers(), -3, "restore", x -> x.restore());
    KeptAnswers keyed = new KeptAnswers();
    keyed.in(2, 1, 0);
    keyed.in(2, 1, 1);
    keyed.out(2, 1, 0);
    keyed.key(2, true);
    test.refused(keyed, -3, "undo against a KEY", x -> x.undo());
    test.due.close();
  }
}
