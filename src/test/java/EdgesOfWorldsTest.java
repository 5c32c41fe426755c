/** Boundary cases of promises 22 to 25: KEPT answers, WORLDS, what is sure, what is lacking. */
final class EdgesOfWorldsTest extends Edges {
  private static final String KEEP =
      "A VIEW's answer is KEPT as it is now (on), or not any more: what it is now";

  public static void main(String[] args) throws Exception {
    run(EdgesOfWorldsTest.class, args);
  }

  private void sixViews() {
    views("000", "001", "010", "011", "10a", "11a");
  }

  private void keepAll() {
    for (int view = 0; view < x.count(1); view++) {
      x.keep(view, true);
    }
  }

  private void fullTables() {
    for (int bit = 0; bit < 12; bit++) {
      due(1, x.in(bit / 4, bit / 2 % 2, bit % 2));
    }
  }

  /** One table alone gives these answers: no row at all. */
  private void oneWorld() {
    views("0ab", "1ab", "2ab");
    keepAll();
  }

  /** No table gives these answers. */
  private void noWorld() {
    views("0ab", "0ab:a");
    due(0, x.keep(0, true));
    rows("011");
    due(2, x.keep(1, true));
  }

  // ---- Promise 22

  @Says(KEEP) void promise22_keep_theLeastAndTheGreatestView() {
    sixViews();
    rows("000", "111");
    due(1, x.keep(0, true));
    due(1, x.keep(5, true));
    due(2, x.count(4));
  }

  @Says(KEEP) void promise22_keep_allSix() {
    sixViews();
    for (int view = 0; view < 6; view++) {
      due(0, x.keep(view, true));
      due(view + 1, x.count(4));
    }
  }

  @Says(KEEP) void promise22_keep_theLeastAndTheGreatestAnswer() {
    views("0ab,0cd:abc", "0ab,0cd:cab");
    due(0, x.keep(0, true));
    fullTables();
    due(255, x.keep(1, true));
    due(0, x.worlds());
    due(255, x.keep(0, true));
    due(256, x.worlds());
  }

  @Says("-9 if not any more") void promise22_keep_minus9NotAnyMore() {
    sixViews();
    due(0, x.keep(5, true));
    due(-9, x.keep(5, false));
    due(0, x.count(4));
    due(4096, x.worlds());
  }

  @Says("-9 if not any more") void promise22_keep_minus9ItWasNotKept() {
    sixViews();
    due(0, x.keep(4, true));
    due(-9, x.keep(5, false));
    due(-9, x.keep(0, false));
    due(1, x.count(4));
  }

  @Says("-1") void promise22_keep_minus1ViewBelow() {
    sixViews();
    no(-1, x.keep(-1, true));
    no(-1, x.keep(-1, false));
    no(-1, x.keep(LEAST, true));
    due(0, x.count(4));
  }

  @Says("-1") void promise22_keep_minus1ViewAbove() {
    no(-1, x.keep(0, true));
    no(-1, x.keep(0, false));
    sixViews();
    no(-1, x.keep(6, true));
    no(-1, x.keep(6, false));
    no(-1, x.keep(MOST, true));
    no(-1, x.keep(32, true));
    due(0, x.count(4));
  }

  // ---- Promise 23

  @Says("How many WORLDS") void promise23_worlds_4096AreTheMost() {
    due(4096, x.worlds());
    sixViews();
    fullTables();
    due(4096, x.worlds());
  }

  @Says("How many WORLDS") void promise23_worlds_one() {
    oneWorld();
    due(1, x.worlds());
  }

  @Says("How many WORLDS") void promise23_worlds_none() {
    noWorld();
    due(0, x.worlds());
  }

  @Says("How many WORLDS") void promise23_worlds_allKeysLeave9Times9Times9() {
    keys(0, 1, 2);
    due(729, x.worlds());
  }

  // ---- Promise 24

  private static final String SURE = "SURELY (what 0), COULD (1)";

  @Says(SURE) void promise24_sure_nothingIsSureWithoutKeptAnswers() {
    asks("0ab,0cd:abc", "0ab");
    due(0, x.sure(0, 0));
    due(255, x.sure(0, 1));
    due(0, x.sure(1, 0));
    due(1, x.sure(1, 1));
  }

  @Says(SURE) void promise24_sure_noRowAtAll() {
    oneWorld();
    asks("0ab,1cd:abc");
    due(0, x.sure(0, 0));
    due(0, x.sure(0, 1));
  }

  @Says(SURE) void promise24_sure_allEightRows() {
    sixViews();
    asks("0ab,1cd:abc");
    fullTables();
    keepAll();
    due(255, x.sure(0, 0));
    due(255, x.sure(0, 1));
  }

  @Says("-9 there is no WORLD") void promise24_sure_minus9() {
    noWorld();
    asks("0ab", "1ab:a");
    for (int ask = 0; ask < 2; ask++) {
      due(-9, x.sure(ask, 0));
      due(-9, x.sure(ask, 1));
    }
  }

  @Says("-1") void promise24_sure_minus1AskBelow() {
    asks("0ab");
    no(-1, x.sure(-1, 0));
    no(-1, x.sure(LEAST, 1));
  }

  @Says("-1") void promise24_sure_minus1AskAbove() {
    no(-1, x.sure(0, 0));
    asks("000", "001", "010", "011", "100", "101", "110", "111", "200", "0ab");
    due(1, x.sure(9, 1));
    no(-1, x.sure(10, 0));
    no(-1, x.sure(MOST, 1));
  }

  @Says("-2") void promise24_sure_minus2WhatBelow() {
    asks("0ab");
    no(-2, x.sure(0, -1));
    no(-2, x.sure(0, LEAST));
  }

  @Says("-2") void promise24_sure_minus2WhatAbove() {
    asks("0ab");
    no(-2, x.sure(0, 2));
    no(-2, x.sure(0, MOST));
  }

  @Says("-9 there is no WORLD; -1; -2") void promise24_sure_theFirstRefusalThatFits() {
    noWorld();
    asks("0ab");
    no(-1, x.sure(1, 2));
    no(-1, x.sure(-1, -1));
    no(-2, x.sure(0, 2));
    no(-2, x.sure(0, -1));
  }

  // ---- Promise 25

  @Says("BESIDES") void promise25_besides_0NothingIsLacking() {
    oneWorld();
    asks("0ab,1cd:abc");
    due(0, x.besides(0));
  }

  @Says("BESIDES") void promise25_besides_0OfNothingByAKey() {
    asks("000,001");
    due(-9, x.besides(0));
    keys(0);
    due(0, x.besides(0));
  }

  @Says("BESIDES") void promise25_besides_allSix() {
    sixViews();
    asks("0ab,1cd:abc");
    fullTables();
    due(63, x.besides(0));
  }

  @Says("BESIDES") void promise25_besides_allThatAreLeft() {
    sixViews();
    asks("0ab,1cd:abc");
    fullTables();
    for (int view = 0; view < 6; view++) {
      due(1, x.keep(view, true));
      due(63 & -(2 << view), x.besides(0));
    }
  }

  @Says("BESIDES") void promise25_besides_theLastOfSix() {
    views("1ab", "1ab", "1ab", "1ab", "1ab", "0ab");
    asks("0ab");
    due(32, x.besides(0));
  }

  @Says("-9") void promise25_besides_minus9WithoutViews() {
    asks("0ab");
    due(-9, x.besides(0));
  }

  @Says("-9") void promise25_besides_minus9AllViewsDoNotTell() {
    sixViews();
    asks("2ab", "0ab,1cd:acd");
    fullTables();
    due(-9, x.besides(0));
    due(-9, x.besides(1));
  }

  @Says("-9") void promise25_besides_minus9NoWorld() {
    noWorld();
    asks("0ab");
    due(-9, x.besides(0));
  }

  @Says("-9") void promise25_besides_minus9AllAreKept() {
    views("0ab:a");
    asks("0ab:b");
    rows("000");
    due(1, x.keep(0, true));
    due(-9, x.besides(0));
  }

  @Says("-1") void promise25_besides_minus1AskBelow() {
    asks("0ab");
    no(-1, x.besides(-1));
    no(-1, x.besides(LEAST));
  }

  @Says("-1") void promise25_besides_minus1AskAbove() {
    no(-1, x.besides(0));
    views("0ab");
    asks("000", "001", "010", "011", "100", "101", "110", "111", "200", "0ab");
    due(1, x.besides(9));
    no(-1, x.besides(10));
    no(-1, x.besides(MOST));
  }
}
