/** Promises 9 to 16: the TEXT, ASKS and VIEWS, ANSWERS, STEPS, WITHIN and SAME. */
final class PicturesTest {
  private final Due due = new Due("PicturesTest");

  /** Promise 9. */
  private void bytesOfTheText() {
    KeptAnswers x = new KeptAnswers();
    due.is("the lowest first", x.feed(2, 0x6130L), 2);
    due.is("count(5)", x.count(5), 2);
    due.is("higher bytes do not come", x.feed(1, 0x7F7F62L), 3);
    due.is("ask of 0ab", x.ask(), 0);
    due.is("the TEXT has none then", x.count(5), 0);
    due.is("feed(0)", x.feed(0, 0L), -4);
    due.is("feed(-5)", x.feed(Integer.MIN_VALUE, 0L), -4);
    due.is("feed(9)", x.feed(9, 0L), -6);
    due.is("feed(8)", x.feed(8, -1L), 8);
    due.is("feed(8)", x.feed(8, -1L), 16);
    due.is("feed(7)", x.feed(7, -1L), 23);
    due.is("above 24", x.feed(2, -1L), -6);
    due.is("below ahead of above", x.feed(0, -1L), -4);
    due.is("24", x.feed(1, -1L), 24);
    due.is("above 24", x.feed(1, -1L), -6);
    due.is("count(5)", x.count(5), 24);
    due.is("a byte of 255", x.ask(), -20);
    due.refusals(x, "0 0 0 3 0 3");
  }

  /** Promises 10 and 11: what stands, and where the FAULT is. */
  private void faults() {
    String[] whole = {"0ab", "2e0", "100", "0ab:a", "0ab:ba", "0ab:aaa", "0ab,1bc,2cd,0de:ade", "0ab,0ab"};
    for (String text : whole) {
      KeptAnswers x = new KeptAnswers();
      due.is("ask() of " + text, Due.ask(x, text), 0);
      due.is("view() of " + text, Due.view(x, text), 0);
    }
    Object[][] faulty = {
      {"", 0}, {"3ab", 0}, {"/ab", 0}, {"aab", 0}, {",0ab", 0}, {":a", 0}, {"0", 1}, {"0a", 2}, {"0fa", 1},
      {"02a", 1}, {"0Aa", 1}, {"0`a", 1}, {"0af", 2}, {"0a2", 2}, {"0a/", 2}, {"0a,", 2}, {"0abc", 3},
      {"0ab ", 3}, {"0ab;", 3}, {"0ab,", 4}, {"0ab,,", 4}, {"0ab,3ab", 4}, {"0ab,0", 5}, {"0ab:", 4},
      {"0ab::", 4}, {"0ab:c", 4}, {"0ab:0", 4}, {"000:a", 4}, {"0ab:a,", 5}, {"0ab:a,0bc", 5},
      {"0ab:abab", 7}, {"0ab:aba0", 7}, {"0ab:abc", 6}, {"0ab:a\u00e9", 5}, {"0ab,0ab,0ab,0ab,", 16},
      {"0ab,0ab,0ab,0ab,0ab", 16}, {"0ab,0ab,0ab,0ab,x", 16}, {"0ab,0ab,0ab,0ab:c", 16},
      {"0ab,0ab,0ab,0ab;", 15}
    };
    for (Object[] fault : faulty) {
      KeptAnswers x = new KeptAnswers();
      due.is("ask() of " + fault[0], Due.ask(x, (String) fault[0]), -20 - (Integer) fault[1]);
      due.is("the TEXT has none", x.count(5), 0);
      due.is("view() of " + fault[0], Due.view(x, (String) fault[0]), -20 - (Integer) fault[1]);
      due.is("no ASK, no VIEW", x.count(0) + x.count(1), 0);
      due.refusals(x, "0 0 0 0 0 0");
    }
  }

  /** Promises 10 and 11: bytes of an earlier TEXT stand in no later one. */
  private void faultsAfterMore() {
    KeptAnswers x = new KeptAnswers();
    String[] texts = {"0ab,0cd:ab", "0ab,", "0ab,0cd:ab", "0ab,0cd:", "0ab,0cd", "0ab,0", "0ab,0cd", "0ab,0c"};
    int[] want = {0, -24, 1, -28, 2, -25, 3, -26};
    for (int i = 0; i < texts.length; i++) {
      due.is("ask() of " + texts[i], Due.ask(x, texts[i]), want[i]);
    }
    due.is("HEAD of the last one", x.steps(3, 3), 0);
  }

  /** Promises 10 and 11: how many there may be. */
  private void numbers() {
    KeptAnswers x = new KeptAnswers();
    for (int i = 0; i < 10; i++) {
      due.is("ask()", Due.ask(x, "0a" + i % 2), i);
    }
    due.is("an ASK more", Due.ask(x, "0ab"), -6);
    due.is("the TEXT stays", x.count(5), 3);
    for (int i = 0; i < 6; i++) {
      due.is("view()", x.view(), i == 0 ? 0 : i);
      Due.feed(x, "0ab");
    }
    due.is("a VIEW more", x.view(), -6);
    due.is("an ASK more ahead of its FAULT", Due.ask(x, "?"), -6);
    due.is("a VIEW more ahead of its FAULT", x.view(), -6);
    due.is("the TEXT stays", x.count(5), 4);
    due.is("count(0)", x.count(0), 10);
    due.is("count(1)", x.count(1), 6);
    due.refusals(x, "0 0 0 0 0 4");
  }

  /** Promise 12. */
  private void answers() {
    KeptAnswers x = Due.with(Due.views("0ab:ab", "0ab:ba", "0ab:aa", "0ab", "01b:b", "0aa:a"),
        "0ab,1bc:ac", "0ab,1bc:cab", "0ab,0ba:a", "2de:e", "000", "0ab,2cd", "0a0,0a1:a");
    int[] wantAsks = new int[7];
    int[] wantViews = new int[6];
    answersAre(x, wantAsks, wantViews);
    x.in(0, 0, 1);
    x.in(0, 1, 1);
    x.in(1, 1, 0);
    answersAre(x, new int[] {3, 1 << 4 | 1 << 6, 2, 0, 0, 0, 0}, new int[] {12, 10, 9, 1, 2, 2});
    x.in(2, 1, 0);
    x.in(0, 0, 0);
    x.out(0, 1, 1);
    answersAre(x, new int[] {1, 1 << 4, 1, 1, 1, 1, 1}, new int[] {5, 3, 1, 1, 0, 1});
    Due.ask(x, "0ab,0bd,2cd,2ce:bde");
    due.is("five NAMES", x.answer(7, false), 1);
    x.in(2, 1, 1);
    x.in(0, 0, 1);
    x.in(0, 1, 1);
    due.is("five NAMES", x.answer(7, false), 0b11011101);
    due.is("answer of an ASK that is none", x.answer(8, false), -1);
    due.is("answer of a VIEW that is none", x.answer(6, true), -1);
    due.is("answer(-1)", x.answer(-1, false), -1);
    due.is("answer(-1)", x.answer(Integer.MIN_VALUE, true), -1);
    due.refusals(x, "4 0 0 0 0 0");
  }

  private void answersAre(KeptAnswers x, int[] asks, int[] views) {
    for (int i = 0; i < asks.length; i++) {
      due.is("answer(" + i + ", false)", x.answer(i, false), asks[i]);
    }
    for (int i = 0; i < views.length; i++) {
      due.is("answer(" + i + ", true)", x.answer(i, true), views[i]);
    }
  }

  private void stepsAre(String text, int keys, int[] steps, int... rows) {
    KeptAnswers x = Due.with(Due.views(), text);
    for (int table = 0; table < 3; table++) {
      x.key(table, (keys >> table & 1) != 0);
    }
    for (int what = 0; what < 4; what++) {
      due.is("steps(0, " + what + ") of " + text + " with KEYS " + keys, x.steps(0, what), steps[what]);
    }
    for (int i = 0; i < rows.length; i++) {
      due.is("end(0, " + i + ") of " + text + " with KEYS " + keys, x.end(0, i), rows[i]);
    }
    due.is("no row more of " + text, x.end(0, rows.length), steps[1] == 1 ? -3 : -9);
  }

  /** Promises 13 and 14. */
  private void ends() {
    stepsAre("0ab,0ac:bc", 0, new int[] {0, 0, 2, 2}, 23, 24);
    stepsAre("0ab,0ac:bc", 1, new int[] {1, 0, 1, 2}, 23);
    stepsAre("0ab,0ac:bc", 6, new int[] {0, 0, 2, 2}, 23, 24);
    stepsAre("0ab,1cd,0ab,1cd", 0, new int[] {0, 0, 2, 0}, 23, 145);
    stepsAre("0ac,0ab,1c0:c", 1, new int[] {1, 0, 2, 1}, 23, 130);
    stepsAre("0a1,0ab,2bb", 1, new int[] {1, 0, 2, 0}, 21, 211);
    stepsAre("0ab,0a0", 1, new int[] {1, 0, 1, 0}, 20);
    stepsAre("0ab,0ac,0bd,0ce", 1, new int[] {2, 0, 2, 0}, 23, 35);
    stepsAre("0ab,1ac,0bd,1bd", 2, new int[] {0, 0, 4, 0}, 23, 124, 35, 135);
    stepsAre("0ba,0b0,1aa", 1, new int[] {1, 0, 2, 0}, 30, 100);
    stepsAre("0ba,0b1,1aa", 1, new int[] {1, 0, 2, 0}, 31, 111);
    stepsAre("000,001", 1, new int[] {0, 1, 2, 0});
    stepsAre("000,001", 0, new int[] {0, 0, 2, 0}, 0, 1);
    stepsAre("0a0,0ab,0ac,0b1:cb", 1, new int[] {2, 0, 2, 2}, 20, 1);
    stepsAre("0a0,0ab,001,0b0", 1, new int[] {1, 1, 3, 0});
    stepsAre("0a0,0a1,0ab:b", 1, new int[] {0, 1, 3, 1});
    stepsAre("0ab,0a0,0a1:b", 1, new int[] {1, 1, 2, 1});
    stepsAre("1ea,1ed,2da:ead", 7, new int[] {1, 0, 2, 3}, 162, 222);
    KeptAnswers x = Due.with(Due.views(), "000,001", "0ab");
    x.key(0, true);
    due.is("end of NOTHING", x.end(0, 0), -3);
    due.is("end of NOTHING, no row", x.end(0, 9), -3);
    due.is("end, no row", x.end(1, -1), -9);
    due.is("end, no row", x.end(1, Integer.MAX_VALUE), -9);
    due.is("end of no ASK", x.end(2, 0), -1);
    due.is("steps of no ASK", x.steps(2, 9), -1);
    due.is("steps(0, 4)", x.steps(0, 4), -2);
    due.is("steps(0, -1)", x.steps(0, -1), -2);
    due.refusals(x, "2 2 2 0 0 0");
    x.key(0, false);
    due.is("a KEY that is no more", x.steps(0, 1), 0);
  }

  private void within(String a, String b, int keys, int aInB, int bInA) {
    KeptAnswers x = Due.with(Due.views(), a, b);
    for (int table = 0; table < 3; table++) {
      x.key(table, (keys >> table & 1) != 0);
    }
    due.is(a + " within " + b + " with KEYS " + keys, x.within(0, 1), aInB);
    due.is(b + " within " + a + " with KEYS " + keys, x.within(1, 0), bInA);
    due.is(a + " same as " + b + " with KEYS " + keys, x.same(0, 1), aInB & bInA);
    due.is(b + " same as " + a + " with KEYS " + keys, x.same(1, 0), aInB & bInA);
    due.is(a + " within itself", x.within(0, 0), 1);
  }

  /** Promises 15 and 16. */
  private void withinOneAnother() {
    within("0ab:a", "0cd:c", 0, 1, 1);
    within("0ab:ab", "0ab:ba", 0, 0, 0);
    within("0aa:aa", "0ab:ab", 0, 1, 0);
    within("0a1:a", "0ab:a", 0, 1, 0);
    within("0ab,0bc:a", "0ab:a", 0, 1, 0);
    within("0ab,0ac:a", "0ab:a", 0, 1, 1);
    within("0ab:a", "1ab:a", 0, 0, 0);
    within("0ab", "0ab:a", 0, 0, 0);
    within("0ab:a", "0ab:aa", 0, 0, 0);
    within("0ab,0ac:bc", "0ab:bb", 0, 0, 1);
    within("0ab,0ac:bc", "0ab:bb", 1, 1, 1);
    within("0ab,0a1:b", "0a1,0ab:b", 1, 1, 1);
    within("0ab,0a1:a", "0a1:a", 1, 1, 1);
    within("000", "0ab", 0, 1, 0);
    within("000,001", "0ab,1cd", 0, 0, 0);
    within("000,001", "0ab,1cd", 1, 1, 0);
    within("000,001", "1ab:a", 1, 0, 0);
    within("000,001", "1ab,100,101", 3, 1, 1);
    KeptAnswers x = Due.with(Due.views(), "0ab", "1ab");
    due.is("within(2, 0)", x.within(2, 0), -1);
    due.is("within(0, 2)", x.within(0, 2), -1);
    due.is("within(-1, 2)", x.within(-1, 2), -1);
    due.is("same(2, 0)", x.same(2, 0), -1);
    due.is("same(0, 2)", x.same(0, 2), -1);
    due.refusals(x, "5 0 0 0 0 0");
  }

  public static void main(String[] args) {
    PicturesTest test = new PicturesTest();
    test.bytesOfTheText();
    test.faults();
    test.faultsAfterMore();
    test.numbers();
    test.answers();
    test.ends();
    test.withinOneAnother();
    test.due.close();
  }
}
