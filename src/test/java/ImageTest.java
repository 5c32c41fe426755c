/** Promises 35 to 37: the IMAGE, and what count() tells. */
final class ImageTest {
  private final Due due = new Due("ImageTest");

  /** An object in which all that an image holds is told. */
  private static KeptAnswers full() {
    KeptAnswers x = Due.with(Due.views("0ab:ab", "1ab:a"), "0ab,1ac:ab", "0ab,0ac");
    x.in(0, 1, 0);
    x.in(1, 1, 1);
    x.key(0, true);
    x.keep(0, true);
    x.weight(0, 3);
    x.size(0, 5, 6);
    x.size(1, 7, 8);
    x.set(0, 50);
    x.set(1, 20);
    x.hours(0, 4, 40);
    x.hours(1, 5, 50);
    x.given(0, true);
    return x;
  }

  private void isFull(KeptAnswers x) {
    due.is("rows(0)", x.rows(0), 4);
    due.is("rows(1)", x.rows(1), 8);
    due.is("rows(2)", x.rows(2), 0);
    due.is("count(0)", x.count(0), 2);
    due.is("count(1)", x.count(1), 2);
    due.is("count(2)", x.count(2), 2);
    due.is("count(3)", x.count(3), 1);
    due.is("count(4)", x.count(4), 1);
    due.is("worlds()", x.worlds(), 256);
    due.is("steps(1, 0)", x.steps(1, 0), 1);
    due.is("steps(0, 2)", x.steps(0, 2), 2);
    due.is("answer(1, true)", x.answer(1, true), 2);
    due.is("cost(0)", x.cost(0), 60);
    due.is("cost(3)", x.cost(3), 17);
    due.is("latest(0)", x.latest(0), 40);
    due.is("plan(0)", x.plan(0), 2 + 1 * 13);
    due.is("set(0, 50)", x.set(0, 50), 50);
    due.is("weight(0, 3)", x.weight(0, 3), 3);
    due.is("weight(1, 0)", x.weight(1, 0), 0);
  }

  /** Changes all that an image holds. */
  private static void change(KeptAnswers x) {
    x.key(0, false);
    x.key(1, true);
    x.in(0, 1, 1);
    x.out(1, 1, 1);
    x.in(2, 0, 0);
    Due.view(x, "0ab,1ac:ab");
    Due.ask(x, "2ab");
    x.keep(0, true);
    x.keep(1, true);
    x.weight(0, 9);
    x.weight(1, 9);
    x.weight(2, 9);
    x.size(0, 1, 1);
    x.size(1, 1, 1);
    x.size(2, 1, 1);
    x.set(0, 7);
    x.set(1, 7);
    x.hours(0, 0, 0);
    x.hours(1, 99, 99);
    x.hours(2, 7, 7);
    x.given(0, false);
    x.given(2, true);
  }

  /** Promises 35 and 36. */
  private void imageAndBack() {
    KeptAnswers x = full();
    due.is("restore of none", x.restore(), -3);
    isFull(x);
    due.is("image()", x.image(), 2);
    due.is("an image is no CHANGE", x.count(7), 2);
    for (int i = 0; i < 3; i++) {
      change(x);
      due.is("changes", x.count(7), i == 0 ? 5 : 3);
      due.is("a KEY less", x.steps(1, 0), 0);
      due.is("a VIEW more", x.latest(0), 7);
      due.is("restore()", x.restore(), 2);
      isFull(x);
      due.is("nothing may be UNDONE", x.count(7), 0);
      due.is("undo()", x.undo(), -3);
    }
    due.is("an ASK told anew", Due.ask(x, "2ab"), 2);
    due.is("weight of it", x.weight(2, 0), 0);
    due.is("a VIEW told anew", Due.view(x, "2ab:a"), 2);
    due.is("hours of it", x.hours(2, 1, 1), 1);
    due.is("given of it", x.given(2, false), 0);
    due.is("cost of it", x.cost(4), 60);
    due.is("another image", x.image(), 3);
    change(x);
    due.is("restore of the other", x.restore(), 3);
    due.is("count(0)", x.count(0), 3);
    due.refusals(x, "0 0 4 0 0 0");
    KeptAnswers y = new KeptAnswers();
    due.is("image of a new object", y.image(), 0);
    change(y);
    due.is("restore", y.restore(), 0);
    due.is("rows", y.rows(0) + y.rows(1) + y.rows(2) + y.count(0) + y.count(1) + y.count(3), 0);
  }

  /** Promise 36: the TEXT, the BOOK and REFUSALS stay. */
  private void besideTheImage() {
    KeptAnswers x = new KeptAnswers();
    Due.feed(x, "0a");
    x.put(1);
    x.rows(3);
    x.image();
    Due.feed(x, "b");
    x.put(0);
    x.put(1);
    x.rows(3);
    x.restore();
    due.is("the TEXT stays", x.count(5), 3);
    due.is("the BOOK stays", x.count(6), 3);
    due.is("REFUSALS stay", x.count(11), 2);
    due.is("ask()", x.ask(), 0);
    due.is("read()", x.read(), 1);
    due.is("rows(1)", x.rows(1), 2);
    due.is("the image stays", x.restore(), 0);
    due.is("rows(1)", x.rows(1), 0);
  }

  /** Promise 37. */
  private void counts() {
    KeptAnswers x = full();
    x.in(2, 0, 0);
    x.undo();
    Due.feed(x, "0a");
    x.put(1);
    x.put(1);
    x.put(1);
    int[] want = {2, 2, 2, 1, 1, 2, 3, 2};
    for (int what = 0; what < want.length; what++) {
      due.is("count(" + what + ")", x.count(what), want[what]);
    }
    int[] others = {8, 9, 10, 17, -1, Integer.MIN_VALUE, Integer.MAX_VALUE};
    for (int what : others) {
      due.is("count(" + what + ")", x.count(what), -9);
    }
    due.refusals(x, "0 0 0 0 0 0");
    x.in(3, 0, 0);
    x.set(2, 0);
    x.set(3, 0);
    x.in(0, 1, 1);
    x.in(0, -1, 0);
    x.in(0, 2, 0);
    x.in(0, 0, 2);
    due.refusals(x, "1 2 1 1 0 2");
  }

  public static void main(String[] args) {
    ImageTest test = new ImageTest();
    test.imageAndBack();
    test.besideTheImage();
    test.counts();
    test.due.close();
  }
}
