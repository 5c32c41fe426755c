import java.util.Arrays;
import java.util.function.Supplier;
import java.util.function.ToIntFunction;

/**
 * "Nothing changes but how many there were": each REFUSAL of each call is tried on one of two objects
 * that were made alike, and then both must answer all that tells what they hold in the same way.
 */
final class RefusalsTest {
  private static final String THIRTEEN_SHOWS = "1ab,1cd:ac";

  private final Due due = new Due("RefusalsTest");

  /** An object with full lists, a full BOOK and a TEXT of 19 bytes; its ASK 4 is SPENT if a VIEW has many SHOWS. */
  private static KeptAnswers full(String view3) {
    KeptAnswers x = Due.with(Due.views("0ab:ab", "1ab:a", "0ab,1ac:ab", view3, "2ab:b", "1ab:ab"),
        "0ab,1ac:ab", "000,001", "2ab:a", "0ab,0bc,0cd,0de", "1ab,1bc,1cd,1de", "0ab", "1ab", "2ab", "0aa");
    x.key(0, true);
    x.in(0, 1, 0);
    x.in(1, 1, 1);
    x.in(1, 1, 0);
    x.image();
    x.in(0, 0, 1);
    x.key(0, false);
    x.out(0, 0, 1);
    x.in(0, 0, 0);
    x.out(0, 0, 0);
    x.in(0, 0, 1);
    x.key(0, true);
    Due.ask(x, "0ab,1bc");
    for (int i = 0; i < 60; i++) {
      x.put(i % 2);
    }
    Due.feed(x, "2ab,1bc,2cd,0de:ade");
    for (int i = 0; i < 10; i++) {
      x.weight(i, 11 * i);
    }
    for (int i = 0; i < 6; i++) {
      x.size(i, 10 + 3 * i, 2 * i);
      x.hours(i, i, 20 - i);
      x.given(i, i % 2 == 0);
    }
    x.set(0, 50);
    x.set(1, 7);
    x.keep(0, true);
    return x;
  }

  private static KeptAnswers full() {
    return full("2ab");
  }

  /** A row of TABLE 2 went, and a KEY forbids that it comes back. */
  private static KeptAnswers keyed() {
    KeptAnswers x = new KeptAnswers();
    x.in(2, 1, 0);
    x.in(2, 1, 1);
    x.out(2, 1, 0);
    x.key(2, true);
    return x;
  }

  private void tableCalls() {
    refused(-1, "promise2_in", x -> x.in(3, 0, 0));
    refused(-4, "promise2_in", x -> x.in(0, -1, 0));
    refused(-4, "promise2_in", x -> x.in(2, 0, -1));
    refused(-6, "promise2_in", x -> x.in(0, 2, 0));
    refused(-6, "promise2_in", x -> x.in(0, 0, 2));
    refused(-3, "promise2_in", x -> x.in(0, 0, 0));
    refused(-1, "promise3_out", x -> x.out(-1, 0, 0));
    refused(-4, "promise3_out", x -> x.out(0, 1, -1));
    refused(-6, "promise3_out", x -> x.out(0, 2, 0));
    refused(RefusalsTest::keyed, -3, "promise4_undo", x -> x.undo());
    refused(KeptAnswers::new, -3, "promise4_undo", x -> x.undo());
    refused(-1, "promise5_key", x -> x.key(3, true));
    refused(-1, "promise5_key", x -> x.key(-1, false));
    refused(-3, "promise5_key", x -> x.key(1, true));
    refused(-1, "promise6_rows", x -> x.rows(3));
    refused(-4, "promise7_put", x -> x.put(-129));
    refused(-6, "promise7_put", x -> x.put(128));
    refused(-6, "promise7_put", x -> x.put(0));
    refused(KeptAnswers::new, -4, "promise7_put", x -> x.put(-129));
    refused(KeptAnswers::new, -6, "promise7_put", x -> x.put(128));
  }

  private void pictureCalls() {
    refused(-4, "promise9_feed", x -> x.feed(0, 65L));
    refused(-6, "promise9_feed", x -> x.feed(9, 65L));
    refused(-6, "promise9_feed", x -> x.feed(6, 65L));
    refused(KeptAnswers::new, -6, "promise9_feed", x -> x.feed(9, 65L));
    refused(-6, "promise10_ask", x -> x.ask());
    refused(-6, "promise11_view", x -> x.view());
    refused(-1, "promise12_answer", x -> x.answer(10, false));
    refused(-1, "promise12_answer", x -> x.answer(6, true));
    refused(-1, "promise13_steps", x -> x.steps(10, 0));
    refused(-2, "promise13_steps", x -> x.steps(0, 4));
    refused(-1, "promise14_end", x -> x.end(-1, 0));
    refused(-3, "promise14_end", x -> x.end(1, 0));
    refused(-1, "promise15_within", x -> x.within(10, 0));
    refused(-1, "promise15_within", x -> x.within(0, 10));
    refused(-1, "promise16_same", x -> x.same(10, 0));
    refused(-1, "promise16_same", x -> x.same(0, 10));
  }

  private void showCalls() {
    refused(-1, "promise17_shows", x -> x.shows(10));
    refused(-1, "promise18_show", x -> x.show(10, 0));
    refused(-1, "promise18_show", x -> x.show(0, 12));
    refused(-1, "promise19_cover", x -> x.cover(10, 0));
    refused(-2, "promise19_cover", x -> x.cover(0, 3));
    refused(-1, "promise20_covers", x -> x.covers(10, 0));
    refused(-1, "promise20_covers", x -> x.covers(0, -1));
    refused(-6, "promise20_covers", x -> x.covers(0, 15));
    refused(-1, "promise21_may", x -> x.may(10, 0));
    refused(-1, "promise21_may", x -> x.may(0, 64));
    refused(-1, "promise22_keep", x -> x.keep(6, true));
    refused(-1, "promise22_keep", x -> x.keep(6, false));
    refused(-1, "promise24_sure", x -> x.sure(10, 0));
    refused(-2, "promise24_sure", x -> x.sure(0, 2));
    refused(-1, "promise25_besides", x -> x.besides(10));
  }

  private void weekCalls() {
    refused(-1, "promise26_weight", x -> x.weight(10, 1));
    refused(-4, "promise26_weight", x -> x.weight(1, -1));
    refused(-6, "promise26_weight", x -> x.weight(1, 100));
    refused(-1, "promise27_size", x -> x.size(6, 1, 1));
    refused(-4, "promise27_size", x -> x.size(1, 50, -1));
    refused(-4, "promise27_size", x -> x.size(1, -1, 50));
    refused(-6, "promise27_size", x -> x.size(1, 50, 100));
    refused(-6, "promise27_size", x -> x.size(1, 100, 50));
    refused(-2, "promise28_set", x -> x.set(2, 1));
    refused(-4, "promise28_set", x -> x.set(0, -1));
    refused(-4, "promise28_set", x -> x.set(1, -1));
    refused(-6, "promise28_set", x -> x.set(0, 1000));
    refused(-6, "promise28_set", x -> x.set(1, 100));
    refused(-1, "promise29_cost", x -> x.cost(64));
    refused(-2, "promise30_which", x -> x.which(2));
    refused(-1, "promise31_hours", x -> x.hours(6, 1, 1));
    refused(-4, "promise31_hours", x -> x.hours(1, -1, 50));
    refused(-6, "promise31_hours", x -> x.hours(1, 50, 100));
    refused(-3, "promise31_hours", x -> x.hours(1, 50, 49));
    refused(-1, "promise32_latest", x -> x.latest(10));
    refused(-1, "promise33_given", x -> x.given(6, true));
    refused(-3, "promise33_given", x -> x.given(3, true));
    refused(-1, "promise34_plan", x -> x.plan(10));
    refused(RefusalsTest::keyed, -3, "promise36_restore", x -> x.restore());
    refused(KeptAnswers::new, -3, "promise36_restore", x -> x.restore());
  }

  private void spentCalls() {
    Supplier<KeptAnswers> spent = () -> full(THIRTEEN_SHOWS);
    refused(spent, -5, "promise17_shows", x -> x.shows(4));
    refused(spent, -5, "promise18_show", x -> x.show(4, 0));
    refused(spent, -5, "promise19_cover", x -> x.cover(4, 0));
    refused(spent, -5, "promise20_covers", x -> x.covers(4, 1));
    refused(spent, -5, "promise21_may", x -> x.may(4, 1));
    refused(spent, -5, "promise29_cost", x -> x.cost(1));
    refused(spent, -5, "promise30_which", x -> x.which(0));
    refused(spent, -5, "promise32_latest", x -> x.latest(4));
    refused(spent, -5, "promise34_plan", x -> x.plan(4));
  }

  /** Answers of some calls, in order. */
  private static final class Answers {
    private final StringBuilder all = new StringBuilder();

    void add(int... answers) {
      for (int answer : answers) {
        all.append(answer).append(' ');
      }
      all.append('/');
    }
  }

  /** All that an object answers, first of what it holds, then of what it held ahead of its CHANGES. */
  private static String all(KeptAnswers x) {
    Answers answers = new Answers();
    tell(x, answers);
    for (int i = 0; i < 12; i++) {
      answers.add(x.undo(), x.rows(0), x.rows(1), x.rows(2));
    }
    answers.add(x.read(), x.rows(0), x.rows(1), x.rows(2), x.count(6), x.count(7));
    answers.add(x.restore(), x.count(0), x.count(1), x.rows(0), x.rows(1), x.count(3), x.count(4));
    int ask = x.ask();
    answers.add(ask, x.count(5), x.steps(ask, 2), x.steps(ask, 3), x.end(ask, 0), x.end(ask, 3));
    return answers.all.toString();
  }

  private static void tell(KeptAnswers x, Answers answers) {
    for (int what = 0; what < 8; what++) {
      answers.add(x.count(what));
    }
    answers.add(x.rows(0), x.rows(1), x.rows(2), x.worlds(), x.which(0), x.which(1));
    for (int ask = 0; ask < 10; ask++) {
      answers.add(x.answer(ask, false), x.steps(ask, 0), x.steps(ask, 2), x.end(ask, 0));
      answers.add(x.shows(ask), x.cover(ask, 1), x.latest(ask), x.plan(ask));
      answers.add(x.sure(ask, 0), x.sure(ask, 1), x.besides(ask));
    }
    for (int view = 0; view < 6; view++) {
      answers.add(x.answer(view, true), x.cost(1 << view), x.given(view, true));
    }
    for (int room = 10; room <= 30; room++) {
      answers.add(x.set(0, room), x.which(0));
    }
    for (int ask = 0; ask < 10; ask++) {
      answers.add(x.weight(ask, 0));
    }
    answers.add(x.set(1, 0));
  }

  private static int[] counts(KeptAnswers x) {
    int[] counts = new int[7];
    for (int i = 1; i < counts.length; i++) {
      counts[i] = x.count(10 + i);
    }
    return counts;
  }

  private void refused(int number, String name, ToIntFunction<KeptAnswers> call) {
    refused(RefusalsTest::full, number, name, call);
  }

  private void refused(Supplier<KeptAnswers> made, int number, String name, ToIntFunction<KeptAnswers> call) {
    KeptAnswers x = made.get();
    KeptAnswers other = made.get();
    due.is(name, call.applyAsInt(x), number);
    int[] counts = counts(other);
    counts[-number]++;
    due.is(name + " " + number + ": REFUSALS", Arrays.equals(counts, counts(x)) ? 1 : 0, 1);
    due.is(name + " " + number + ": all else", all(x).equals(all(other)) ? 1 : 0, 1);
    due.is(name + " " + number + ": REFUSALS thereafter", x.count(10 - number), other.count(10 - number) + 1);
  }

  public static void main(String[] args) {
    RefusalsTest test = new RefusalsTest();
    test.tableCalls();
    test.pictureCalls();
    test.showCalls();
    test.weekCalls();
    test.spentCalls();
    test.due.close();
  }
}
