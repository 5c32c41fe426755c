/** Promises 1 to 8: rows of TABLES, KEYS, CHANGES taken back, the BOOK. */
final class TablesTest {
  private static final int LEAST = Integer.MIN_VALUE;
  private static final int MOST = Integer.MAX_VALUE;

  private final Due due = new Due("TablesTest");

  /** Promise 1. */
  private void newObject() {
    KeptAnswers x = new KeptAnswers();
    for (int table = 0; table < 3; table++) {
      due.is("rows(" + table + ") of a new object", x.rows(table), 0);
    }
    for (int what = 0; what <= 7; what++) {
      due.is("count(" + what + ") of a new object", x.count(what), 0);
    }
    due.is("worlds() of a new object", x.worlds(), 4096);
    due.is("which(1) of a new object", x.which(1), 0);
    due.refusals(x, "0 0 0 0 0 0");
  }

  /** Promise 2: a row comes in, and each REFUSAL ahead of those behind it. */
  private void rowsIn() {
    KeptAnswers x = new KeptAnswers();
    due.is("in", x.in(2, 1, 0), 1);
    due.is("in of a row that is there", x.in(2, 1, 0), 0);
    due.is("in of the same row of another TABLE", x.in(1, 1, 0), 1);
    due.is("rows(2)", x.rows(2), 4);
    due.is("in(-1)", x.in(-1, -1, 2), -1);
    due.is("in(3)", x.in(3, 0, 0), -1);
    due.is("in of x below and y above", x.in(0, -1, 2), -4);
    due.is("in of x above and y below", x.in(0, 2, -1), -4);
    due.is("in of y above", x.in(0, 0, 2), -6);
    due.is("in of x above", x.in(0, 2, 0), -6);
    due.is("in of far numbers", x.in(LEAST, MOST, MOST), -1);
    due.is("in of far x, y", x.in(0, MOST, MOST), -6);
    due.is("key", x.key(2, true), 1);
    due.is("in against a KEY", x.in(2, 1, 1), -3);
    due.is("in of a row that is there with a KEY", x.in(2, 1, 0), 0);
    due.is("in of another x", x.in(2, 0, 1), 1);
    due.is("a KEY binds its own TABLE alone", x.in(1, 1, 1), 1);
    due.is("rows(2)", x.rows(2), 6);
    due.is("a row that was there is no CHANGE", x.count(7), 4);
    due.refusals(x, "3 0 1 2 0 3");
  }

  /** Promise 3. */
  private void rowsOut() {
    KeptAnswers x = new KeptAnswers();
    x.in(0, 1, 1);
    due.is("out of a row that is not there", x.out(0, 0, 1), 0);
    due.is("no CHANGE", x.count(7), 1);
    due.is("out", x.out(0, 1, 1), 1);
    due.is("out again", x.out(0, 1, 1), 0);
    due.is("rows(0)", x.rows(0), 0);
    due.is("out(3)", x.out(3, -1, 2), -1);
    due.is("out of y below", x.out(0, 2, -1), -4);
    due.is("out of x above", x.out(0, 2, 0), -6);
    due.is("count(7)", x.count(7), 2);
    due.refusals(x, "1 0 0 1 0 1");
  }

  /** Promise 4: the latest first, 40 at most, and one that a KEY forbids stays. */
  private void undone() {
    KeptAnswers x = new KeptAnswers();
    due.is("undo of nothing", x.undo(), -3);
    x.in(0, 0, 0);
    x.in(0, 0, 1);
    x.out(0, 0, 0);
    x.key(0, true);
    due.is("undo against a KEY", x.undo(), -3);
    due.is("it stays", x.count(7), 3);
    due.is("rows are as they were", x.rows(0), 2);
    due.is("undo against a KEY again", x.undo(), -3);
    x.key(0, false);
    due.is("undo of out", x.undo(), 1);
    due.is("rows", x.rows(0), 3);
    due.is("undo of in", x.undo(), 1);
    due.is("rows", x.rows(0), 1);
    due.is("undo is no CHANGE", x.count(7), 1);
    due.refusals(x, "0 0 3 0 0 0");
    manyUndone();
  }

  private void manyUndone() {
    KeptAnswers x = new KeptAnswers();
    x.in(1, 0, 1);
    x.in(1, 1, 1);
    for (int i = 0; i < 20; i++) {
      x.in(2, 0, 0);
      due.is("count(7)", x.count(7), Math.min(40, 3 + 2 * i));
      x.out(2, 0, 0);
    }
    due.is("40 are kept", x.count(7), 40);
    for (int i = 0; i < 40; i++) {
      due.is("undo " + i, x.undo(), 1);
    }
    due.is("the first two are forgotten", x.undo(), -3);
    due.is("rows(1)", x.rows(1), 10);
    due.is("rows(2)", x.rows(2), 0);
  }

  /** Promise 5. */
  private void keys() {
    KeptAnswers x = new KeptAnswers();
    due.is("no KEY at first", x.key(0, false), 0);
    x.in(0, 1, 0);
    x.in(0, 1, 1);
    x.in(1, 0, 1);
    x.in(1, 1, 1);
    due.is("rows break it", x.key(0, true), -3);
    due.is("it is not told", x.key(0, false), 0);
    due.is("one y of two x does not", x.key(1, true), 1);
    due.is("so it was", x.key(1, true), 0);
    due.is("count(3)", x.count(3), 1);
    due.is("not any more", x.key(1, false), 1);
    due.is("key(-1)", x.key(-1, true), -1);
    due.is("key(3)", x.key(3, false), -1);
    due.is("a KEY is no CHANGE", x.count(7), 4);
    x.out(0, 1, 0);
    due.is("rows break it no more", x.key(0, true), 1);
    x.in(2, 0, 0);
    x.in(2, 0, 1);
    due.is("rows of x 0 break it", x.key(2, true), -3);
    due.refusals(x, "2 0 2 0 0 0");
  }

  /** Promise 6. */
  private void rowsAsBits() {
    KeptAnswers x = new KeptAnswers();
    x.in(1, 0, 0);
    due.is("row 0, 0", x.rows(1), 1);
    x.in(1, 0, 1);
    due.is("row 0, 1", x.rows(1), 3);
    x.in(1, 1, 0);
    due.is("row 1, 0", x.rows(1), 7);
    x.in(1, 1, 1);
    due.is("row 1, 1", x.rows(1), 15);
    due.is("TABLE 0", x.rows(0), 0);
    due.is("TABLE 2", x.rows(2), 0);
    due.is("rows(-1)", x.rows(-1), -1);
    due.is("rows(3)", x.rows(3), -1);
    due.refusals(x, "2 0 0 0 0 0");
  }

  /** Promise 7. */
  private void bytesOfTheBook() {
    KeptAnswers x = new KeptAnswers();
    due.is("put(-128)", x.put(-128), 1);
    due.is("put(127)", x.put(127), 2);
    due.is("put(-129)", x.put(-129), -4);
    due.is("put(128)", x.put(128), -6);
    for (int i = 3; i <= 60; i++) {
      due.is("put", x.put(0), i);
    }
    due.is("put of one more", x.put(0), -6);
    due.is("put of one more that is below", x.put(LEAST), -4);
    due.is("count(6)", x.count(6), 60);
    due.refusals(x, "0 0 0 2 0 2");
  }

  private static void putAll(KeptAnswers x, int... bytes) {
    for (int b : bytes) {
      x.put(b);
    }
  }

  /** Promise 8: how far it is read, and that nothing is left of it. */
  private void theBookRead() {
    KeptAnswers x = new KeptAnswers();
    due.is("read of no BOOK", x.read(), 0);
    x.in(0, 0, 0);
    putAll(x, 0, 0, 0, 1, 1, 0, 1, 1, 0, 2, 1, 1);
    due.is("rows that were there are no end", x.read(), 2);
    due.is("rows(1)", x.rows(1), 4);
    due.is("rows(2)", x.rows(2), 8);
    due.is("count(6)", x.count(6), 0);
    due.is("rows are CHANGES one by one", x.count(7), 3);
    due.is("undo", x.undo(), 1);
    due.is("the last row went alone", 100 * x.rows(1) + x.rows(2), 400);
    int[][] noRows = {{3, 0, 0}, {-1, 0, 0}, {0, 2, 0}, {0, -1, 0}, {0, 0, 2}, {0, 0, -1}};
    for (int[] row : noRows) {
      x = new KeptAnswers();
      putAll(x, 0, 1, 1, row[0], row[1], row[2], 0, 1, 0);
      due.is("it ends at what is no row", x.read(), 1);
      due.is("rows(0)", x.rows(0), 8);
      due.is("count(6)", x.count(6), 0);
    }
    putAll(x, 1, 1, 0, 1, 1, 0);
    due.is("one row twice", x.read(), 1);
    x.out(1, 1, 0);
    putAll(x, 1, 1, 1, 1, 1);
    due.is("a row that lacks a byte is none", x.read(), 1);
    x.key(1, true);
    putAll(x, 1, 1, 1, 1, 0, 0, 1, 1, 0, 2, 0, 0);
    due.is("it ends at what breaks a KEY", x.read(), 1);
    due.is("rows(1)", x.rows(1), 9);
    due.is("rows(2)", x.rows(2), 0);
    due.refusals(x, "0 0 0 0 0 0");
  }

  public static void main(String[] args) {
    TablesTest test = new TablesTest();
    test.newObject();
    test.rowsIn();
    test.rowsOut();
    test.undone();
    test.keys();
    test.rowsAsBits();
    test.bytesOfTheBook();
    test.theBookRead();
    test.due.close();
  }
}
