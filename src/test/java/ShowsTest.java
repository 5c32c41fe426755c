/** Promises 17 to 21: SHOWS, COVERS, the LEAST of them, MAY. */
final class ShowsTest {
  private final Due due = new Due("ShowsTest");

  private void showsAre(KeptAnswers x, int ask, int... numbers) {
    due.is("shows(" + ask + ")", x.shows(ask), numbers.length);
    for (int i = 0; i < numbers.length; i++) {
      due.is("show(" + ask + ", " + i + ")", x.show(ask, i), numbers[i]);
    }
  }

  /** Promises 17 and 18: by VIEWS, then by TERMS, each once. */
  private void inOrder() {
    KeptAnswers x = Due.with(Due.views("0ab:ab", "0ab:b", "0ab", "0aa:a", "0a1:a", "0ab,0bc:cab"),
        "0ab,0b1:a", "0ab,0ac", "000,001", "1ab,1cd", "0ab,0aa");
    showsAre(x, 0, 43, 24, 1002, 1004, 2000, 4004, 5432);
    showsAre(x, 1, 43, 53, 1004, 1005, 2000);
    showsAre(x, 2, 11, 21, 1001, 1002, 2000, 3001, 4001, 5111, 5112);
    showsAre(x, 3);
    showsAre(x, 4, 33, 43, 1003, 1004, 2000, 3003, 5333, 5334);
    due.is("key", x.key(0, true), 1);
    showsAre(x, 0, 43, 24, 1002, 1004, 2000, 4004, 5432);
    showsAre(x, 1, 43, 1004, 2000);
    showsAre(x, 2);
    showsAre(x, 4, 33, 1003, 2000, 3003, 5333);
    due.is("show(0, 7)", x.show(0, 7), -1);
    due.is("show(0, -1)", x.show(0, -1), -1);
    due.is("show of NOTHING", x.show(2, 0), -1);
    due.is("show(5, 0)", x.show(5, 0), -1);
    due.is("shows(5)", x.shows(5), -1);
    due.is("shows(-1)", x.shows(-1), -1);
    due.refusals(x, "6 0 0 0 0 0");
  }

  /** Promises 17 and 18: a VIEW told later, and one whose NAME stands twice in HEAD. */
  private void laterViews() {
    KeptAnswers x = Due.with(Due.views(), "0ab,0bc:b");
    showsAre(x, 0);
    Due.view(x, "0de:ded");
    showsAre(x, 0, 343, 454);
    Due.view(x, "0ab:bb");
    showsAre(x, 0, 343, 454, 1044, 1055);
    due.is("a FAULT tells no VIEW", Due.view(x, "0a"), -22);
    showsAre(x, 0, 343, 454, 1044, 1055);
    Due.ask(x, "0ab");
    showsAre(x, 1, 343, 1044);
    KeptAnswers y = Due.with(Due.views("0ab:a", "1ab:b"), "0ab,0ac,0de,1bd");
    showsAre(y, 0, 3, 6, 1006);
  }

  /** Promises 17 to 21 with more than 12 SHOWS. */
  private void tooMany() {
    KeptAnswers x = Due.with(Due.views("0ab:ab", "0ab:ba", "0cd:cd"), "0ab,0bc,0cd,0de", "0ab");
    due.is("12 SHOWS", x.shows(0), 12);
    due.is("plan of 12 SHOWS", x.plan(0), -9);
    due.is("covers(0, 7 << 9)", x.covers(0, 7 << 9), 0);
    due.is("covers(0, 15 << 8)", x.covers(0, 15 << 8), -6);
    due.is("covers(0, 1 << 12)", x.covers(0, 1 << 12), -1);
    due.is("plan of 3 SHOWS", x.plan(1), 1);
    due.is("the last one", x.show(0, 11), 2076);
    due.is("4 ROWS want 4 SHOWS", x.cover(0, 0), -9);
    Due.view(x, "0ab");
    due.is("13 SHOWS", x.shows(0), -5);
    due.is("show", x.show(0, 0), -5);
    due.is("show that is none", x.show(0, 99), -5);
    due.is("cover of another what", x.cover(0, 3), -2);
    due.is("cover", x.cover(0, 1), -5);
    due.is("covers of SHOWS that are none", x.covers(0, -1), -5);
    due.is("may of VIEWS that are none", x.may(0, 16), -1);
    due.is("may", x.may(0, 15), -5);
    due.is("latest", x.latest(0), -5);
    due.is("plan", x.plan(0), -5);
    due.is("another ASK has 4", x.shows(1), 4);
    due.refusals(x, "2 1 0 0 8 1");
    x.key(0, true);
    due.is("a KEY takes none away here", x.shows(0), -5);
    KeptAnswers y = Due.with(Due.views("0ab,0cd:ac"), "0ab,0cd,0de,0ea", "0ab,0ac,0ad,0ae");
    due.is("4 times 4", y.shows(0), -5);
    due.is("once", y.shows(1), 1);
  }

  private void coverIs(KeptAnswers x, int ask, int many, int bits, int asFew) {
    due.is("cover(" + ask + ", 0)", x.cover(ask, 0), many);
    due.is("cover(" + ask + ", 1)", x.cover(ask, 1), bits);
    due.is("cover(" + ask + ", 2)", x.cover(ask, 2), asFew);
  }

  /** Promises 19 and 20. */
  private void leastCovers() {
    KeptAnswers x = Due.with(Due.views("0ab", "0ab:a", "0ab:ab"), "0ab:a", "0ab", "0ab:b", "0ab:ab", "1ab");
    coverIs(x, 0, 1, 2, 2);
    coverIs(x, 1, 1, 1, 3);
    coverIs(x, 2, 1, 4, 1);
    coverIs(x, 3, 1, 4, 1);
    coverIs(x, 4, -9, -9, -9);
    int[] wantOfAsk0 = {0, 0, 1, 1, 1, 1, 1, 1};
    for (int set = 0; set < 8; set++) {
      due.is("covers(0, " + set + ")", x.covers(0, set), wantOfAsk0[set]);
    }
    due.is("covers(0, 8)", x.covers(0, 8), -1);
    due.is("covers(0, 15)", x.covers(0, 15), -1);
    due.is("covers(0, least)", x.covers(0, Integer.MIN_VALUE), -1);
    due.is("covers(5, 0)", x.covers(5, -1), -1);
    due.is("cover(5, 0)", x.cover(5, 3), -1);
    due.is("cover(0, 3)", x.cover(0, 3), -2);
    due.is("cover(4, -1)", x.cover(4, -1), -2);
    Due.view(x, "0ab:b");
    due.is("more than 3", x.covers(0, 15), -6);
    due.is("more than 3, and one that is none", x.covers(0, 31), -1);
    due.is("3", x.covers(0, 13), 1);
    coverIs(x, 2, 1, 4, 2);
    coverIs(x, 3, 1, 4, 1);
    due.refusals(x, "6 2 0 0 0 1");
  }

  /** Promise 19: COVERS of two and three SHOWS; which NAMES must be shown. */
  private void coversOfMore() {
    KeptAnswers x = Due.with(Due.views("0ab:ab", "1ab:ab", "2ab:ab", "1ab:a", "1ab"),
        "0ab,1bc,2cd:ad", "0ab,1bc:a", "0ab,1cd:ab", "0ab,0bc,0cd,0da");
    coverIs(x, 0, 3, 7, 1);
    coverIs(x, 1, 2, 3, 2);
    due.is("by the end of a ROW", x.covers(1, 5), 1);
    due.is("not tied", x.covers(1, 9), 0);
    coverIs(x, 2, 2, 3, 3);
    coverIs(x, 3, -9, -9, -9);
    due.is("four would be needed", x.shows(3), 4);
  }

  /** Promise 19: KEYS make new NAMES one; HEAD is that of the END. */
  private void coversByKeys() {
    KeptAnswers x = Due.with(Due.views("0ab,1bc:ac", "0ab,2bc:ac"), "0ab,1bc,2bd:acd");
    coverIs(x, 0, -9, -9, -9);
    due.is("covers(0, 3)", x.covers(0, 3), 0);
    x.key(1, true);
    due.is("another KEY", x.cover(0, 0), -9);
    x.key(0, true);
    coverIs(x, 0, 2, 3, 1);
    x.key(0, false);
    coverIs(x, 0, -9, -9, -9);
    KeptAnswers y = Due.with(Due.views("0a1"), "0ab,0a1:b", "0ab:b", "0a1:a");
    due.is("a NAME of HEAD that is not shown", y.cover(0, 0), -9);
    y.key(0, true);
    coverIs(y, 0, 1, 1, 1);
    due.is("no VALUE in it", y.cover(1, 0), -9);
    due.is("HEAD is not shown", y.cover(2, 0), -9);
    KeptAnswers z = Due.with(Due.views("0ab:aa"), "0cd:c", "0cd:cd");
    coverIs(z, 0, 1, 1, 1);
    coverIs(z, 1, -9, -9, -9);
  }

  /** Promises 19 to 21 of NOTHING. */
  private void nothing() {
    KeptAnswers x = Due.with(Due.views("0ab:ab", "0ab"), "000,001:", "000,001", "0ab");
    x.key(0, true);
    due.is("a HEAD of no NAMES is no ASK", x.count(0), 2);
    coverIs(x, 0, 0, 0, 1);
    due.is("covers(0, 0)", x.covers(0, 0), 1);
    due.is("covers(0, 1)", x.covers(0, 1), -1);
    due.is("covers(1, 0)", x.covers(1, 0), 0);
    due.is("may(0, 0)", x.may(0, 0), 1);
    due.is("may(0, 3)", x.may(0, 3), 1);
    due.is("may(0, 4)", x.may(0, 4), -1);
    due.is("may(1, 0)", x.may(1, 0), 0);
    x.key(0, false);
    coverIs(x, 0, 2, 3, 1);
    due.is("may(0, 0)", x.may(0, 0), 0);
  }

  /** Promise 21. */
  private void rights() {
    KeptAnswers x = Due.with(Due.views("0ab:ab", "1ab:ab", "0ab,1bc:ac"), "0ab,1bc:ac", "0ab,1bc:abc");
    int[] wantOfAsk0 = {0, 0, 0, 1, 1, 1, 1, 1};
    int[] wantOfAsk1 = {0, 0, 0, 1, 0, 0, 0, 1};
    for (int views = 0; views < 8; views++) {
      due.is("may(0, " + views + ")", x.may(0, views), wantOfAsk0[views]);
      due.is("may(1, " + views + ")", x.may(1, views), wantOfAsk1[views]);
    }
    due.is("may(0, 8)", x.may(0, 8), -1);
    due.is("may(0, -1)", x.may(0, -1), -1);
    due.is("may(2, 0)", x.may(2, 0), -1);
    due.is("may(-1, 8)", x.may(-1, 8), -1);
    due.refusals(x, "4 0 0 0 0 0");
  }

  public static void main(String[] args) {
    ShowsTest test = new ShowsTest();
    test.inOrder();
    test.laterViews();
    test.tooMany();
    test.leastCovers();
    test.coversOfMore();
    test.coversByKeys();
    test.nothing();
    test.rights();
    test.due.close();
  }
}
