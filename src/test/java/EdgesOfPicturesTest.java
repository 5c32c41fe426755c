/** Boundary cases of promises 9 to 16: the TEXT, ASKS and VIEWS, ANSWERS, STEPS, WITHIN and SAME. */
final class EdgesOfPicturesTest extends Edges {
  private static final String FEED = "n (1 .. 8) bytes come to the TEXT, the lowest first: how many it has";
  private static final String ASK = "The TEXT, which has none then, becomes an ASK: its number";
  private static final String FAULT = "or, if it has a FAULT, -20 less its place (nothing is counted)";
  private static final String STEPS = "STEPS of an ASK (what 0 how many, 1 whether it is NOTHING, "
      + "2 ROWS of its END, 3 how long its HEAD is)";

  public static void main(String[] args) throws Exception {
    run(EdgesOfPicturesTest.class, args);
  }

  private void fullText() {
    due(8, x.feed(8, 0L));
    due(16, x.feed(8, 0L));
    due(24, x.feed(8, 0L));
  }

  private void tenAsks() {
    asks("000", "001", "010", "011", "100", "101", "110", "111", "200", "201");
  }

  private void sixViews() {
    views("000", "001", "010", "011", "100", "101");
  }

  /** TERMS as end() tells them, of an ASK of one ROW. */
  private void endIs(int want, String text) {
    anew();
    ask(text);
    due(want, x.end(0, 0));
  }

  // ---- Promise 9

  @Says(FEED) void promise9_feed_theLeastAndTheGreatestMany() {
    due(1, x.feed(1, 0L));
    due(9, x.feed(8, 0L));
    due(9, x.count(5));
  }

  @Says(FEED) void promise9_feed_everyManyFrom1To8() {
    for (int n = 1; n <= 8; n++) {
      anew();
      due(n, x.feed(n, -1L));
      due(n, x.count(5));
    }
  }

  @Says(FEED) void promise9_feed_theLowestByteFirst() {
    due(3, x.feed(3, 0x623132L));
    due(0, x.ask());
    due(213, x.end(0, 0));
  }

  @Says(FEED) void promise9_feed_bytesAboveNAreNone() {
    due(2, x.feed(2, 0x3F3F3F3F3F3F6130L));
    due(3, x.feed(1, 0xFFFFFFFFFFFFFF62L));
    due(0, x.ask());
    due(23, x.end(0, 0));
  }

  @Says(FEED) void promise9_feed_theEighthByteIsTheHighest() {
    due(8, x.feed(8, 0x3A6231312C623130L));
    due(9, x.feed(1, 0x62L));
    due(0, x.ask());
    due(113, x.end(0, 1));
    due(8, x.feed(8, 0x206230302C623130L));
    due(-27, x.ask());
  }

  @Says(FEED) void promise9_feed_aByteAbove127IsNoneOfThoseBelow() {
    due(3, x.feed(3, 0x6261B0L));
    due(-20, x.ask());
    due(3, x.feed(3, 0x62E130L));
    due(-21, x.ask());
    due(8, x.feed(8, 0xAC6231302C626130L));
    due(-27, x.ask());
    due(8, x.feed(8, 0xFF6231302C626130L));
    due(-27, x.ask());
  }

  @Says(FEED) void promise9_feed_24BytesAreTheMost() {
    for (int many = 1; many <= 24; many++) {
      due(many, x.feed(1, 0L));
    }
    no(-6, x.feed(1, 0L));
    due(24, x.count(5));
  }

  @Says("-4") void promise9_feed_minus4() {
    no(-4, x.feed(0, 0x30L));
    no(-4, x.feed(-1, 0x30L));
    no(-4, x.feed(LEAST, 0x30L));
    due(0, x.count(5));
  }

  @Says("-6 (above 24, too)") void promise9_feed_minus6NAbove8() {
    no(-6, x.feed(9, 0L));
    no(-6, x.feed(MOST, 0L));
    due(0, x.count(5));
  }

  @Says("-6 (above 24, too)") void promise9_feed_minus6AFullText() {
    fullText();
    for (int n = 1; n <= 9; n++) {
      no(-6, x.feed(n, 0L));
    }
    due(24, x.count(5));
  }

  @Says("-6 (above 24, too)") void promise9_feed_minus6OneByteTooMany() {
    for (int had = 17; had <= 23; had++) {
      anew();
      due(8, x.feed(8, 0L));
      due(16, x.feed(8, 0L));
      due(had, x.feed(had - 16, 0L));
      no(-6, x.feed(25 - had, 0L));
      due(had, x.count(5));
      due(24, x.feed(24 - had, 0L));
    }
  }

  @Says("-4; -6 (above 24, too)") void promise9_feed_minus4OfAFullText() {
    fullText();
    no(-4, x.feed(0, 0L));
    no(-4, x.feed(LEAST, 0L));
  }

  // ---- Promise 10

  @Says(ASK) void promise10_ask_numbersFrom0To9() {
    for (int number = 0; number < 10; number++) {
      due(number, Due.ask(x, "0ab"));
      due(0, x.count(5));
      due(number + 1, x.count(0));
    }
  }

  @Says(ASK) void promise10_ask_theShortestAndTheLongestText() {
    due(0, Due.ask(x, "000"));
    due(1, Due.ask(x, "0ab,1cd,2ea,0bc:ebd"));
    due(4, x.steps(1, 2));
    due(3, x.steps(1, 3));
  }

  @Says(FAULT) void promise10_ask_minus20OfAnEmptyText() {
    due(-20, x.ask());
    due(0, x.count(0));
  }

  @Says(FAULT) void promise10_ask_ofAFullText() {
    due(-39, Due.ask(x, "0ab,1cd,2ea,0bc:ebdabcde"));
    due(-36, Due.ask(x, "0ab,0ab,0ab,0ab,0ab,0ab,"));
    due(-20, Due.ask(x, "abcdefghijklmnopqrstuvwx"));
    due(0, x.count(5));
  }

  @Says(FAULT) void promise10_ask_aFaultIsNotCounted() {
    due(-23, Due.ask(x, "0ab?"));
    due(0, x.count(0));
    due(0, Due.ask(x, "0ab"));
    due(1, x.count(0));
  }

  @Says(FAULT) void promise10_ask_anEarlierTextIsInNoLaterOne() {
    due(-27, Due.ask(x, "0ab,0cd?0ab:abc"));
    due(-24, Due.ask(x, "0ab,"));
    due(-25, Due.ask(x, "0ab,0"));
    due(-26, Due.ask(x, "0ab,0c"));
    due(0, Due.ask(x, "0ab,0cd:abc"));
    due(-28, Due.ask(x, "0ab,0cd:"));
    due(1, Due.ask(x, "0ab,0cd"));
    due(0, x.steps(1, 3));
    due(-24, Due.ask(x, "0ab:"));
  }

  @Says("-6 10 (ahead of any FAULT)") void promise10_ask_minus6OfAnEleventh() {
    tenAsks();
    Due.feed(x, "0ab");
    no(-6, x.ask());
    due(10, x.count(0));
    no(-1, x.answer(10, false));
  }

  @Says("-6 10 (ahead of any FAULT)") void promise10_ask_minus6AheadOfAFault() {
    tenAsks();
    no(-6, x.ask());
    Due.feed(x, "0?");
    no(-6, x.ask());
    due(2, x.count(5));
  }

  @Says("-6 10 (ahead of any FAULT)") void promise10_ask_viewsDoNotCount() {
    sixViews();
    tenAsks();
    due(10, x.count(0));
  }

  @Says("-6 10 (ahead of any FAULT)") void promise10_ask_theTenthNumberIsFreeAgainOnceRestored() {
    asks("000", "001", "010", "011", "100", "101", "110", "111", "200");
    due(0, x.image());
    ask("201");
    Due.feed(x, "210");
    no(-6, x.ask());
    due(0, x.restore());
    due(9, x.ask());
    due(210, x.end(9, 0));
  }

  @Says("(Refused: it stays") void promise10_ask_refusedTheTextStays() {
    tenAsks();
    Due.feed(x, "2ab");
    no(-6, x.ask());
    due(3, x.count(5));
    due(0, x.view());
    due(0, x.count(5));
  }

  @Says("with a FAULT it has none, too.)") void promise10_ask_withAFaultTheTextHasNone() {
    Due.feed(x, "0ab,");
    due(-24, x.ask());
    due(0, x.count(5));
    due(-20, x.ask());
    due(0, Due.ask(x, "0ab"));
  }

  // ---- Promise 11

  @Says("Likewise a VIEW") void promise11_view_numbersFrom0To5() {
    for (int number = 0; number < 6; number++) {
      due(number, Due.view(x, "0ab"));
      due(0, x.count(5));
      due(number + 1, x.count(1));
    }
  }

  @Says("Likewise a VIEW") void promise11_view_asksDoNotCount() {
    tenAsks();
    sixViews();
    due(6, x.count(1));
  }

  @Says("Likewise a VIEW") void promise11_view_minus20OfAnEmptyText() {
    due(-20, x.view());
    due(0, x.count(1));
  }

  @Says("Likewise a VIEW") void promise11_view_ofAFullText() {
    due(-39, Due.view(x, "0ab,1cd,2ea,0bc:ebdabcde"));
    due(0, x.count(5));
    due(0, x.count(1));
  }

  @Says("Likewise a VIEW") void promise11_view_withAFaultTheTextHasNone() {
    due(-24, Due.view(x, "0ab:"));
    due(0, x.count(5));
    due(0, Due.view(x, "0ab"));
  }

  @Says("Likewise a VIEW") void promise11_view_whatAFaultLeftIsInNoLaterOne() {
    asks("0ab,0ac,0ad,0ae");
    due(-31, Due.view(x, "0ab,0cd:abda"));
    views("0ab,0cd:a");
    due(1, x.shows(0));
    due(3, x.show(0, 0));
    due(-39, Due.view(x, "1ab,1bc,1cd,1de:abcd"));
    views("0ab");
    due(2, x.shows(0));
    due(1000, x.show(0, 1));
    due(0, x.answer(1, true));
    rows("000");
    due(1, x.answer(1, true));
  }

  @Says("-6 6") void promise11_view_minus6OfASeventh() {
    sixViews();
    Due.feed(x, "0ab");
    no(-6, x.view());
    due(6, x.count(1));
    no(-1, x.answer(6, true));
  }

  @Says("-6 6") void promise11_view_minus6AheadOfAFault() {
    sixViews();
    no(-6, x.view());
    Due.feed(x, ":");
    no(-6, x.view());
    due(1, x.count(5));
  }

  @Says("-6 6") void promise11_view_refusedTheTextStays() {
    sixViews();
    Due.feed(x, "2ab");
    no(-6, x.view());
    due(3, x.count(5));
    due(0, x.ask());
    due(223, x.end(0, 0));
  }

  @Says("-6 6") void promise11_view_theSixthNumberIsFreeAgainOnceRestored() {
    views("000", "001", "010", "011", "100");
    due(5, x.image());
    views("101");
    Due.feed(x, "111");
    no(-6, x.view());
    due(5, x.restore());
    due(5, x.view());
  }

  // ---- Promise 12

  private static final String ANSWER = "ANSWER of an ASK (view false), a VIEW";

  @Says(ANSWER) void promise12_answer_0OfEmptyTables() {
    asks("0ab", "0ab:ab", "2ab,1cd:dac");
    views("000", "0aa:aaa");
    for (int ask = 0; ask < 3; ask++) {
      due(0, x.answer(ask, false));
    }
    due(0, x.answer(0, true));
    due(0, x.answer(1, true));
  }

  @Says(ANSWER) void promise12_answer_allRowsOfAFullTable() {
    rows("000", "001", "010", "011");
    asks("0ab", "0ab:a", "0ab:ab", "0ab,0bc:abc", "0ab,0bc:aba");
    int[] all = {1, 3, 15, 255, 1 | 4 | 32 | 128};
    for (int ask = 0; ask < all.length; ask++) {
      due(all[ask], x.answer(ask, false));
    }
  }

  @Says(ANSWER) void promise12_answer_ofTheLeastAndTheGreatestNumber() {
    rows("000");
    asks("000", "001", "0ab", "0ab", "0ab", "0ab", "0ab", "0ab", "0ab", "0aa:aaa");
    views("001", "000", "0ab", "0ab", "0ab", "0a1");
    due(1, x.answer(0, false));
    due(1, x.answer(9, false));
    due(0, x.answer(0, true));
    due(0, x.answer(5, true));
    due(1, x.answer(1, true));
    due(0, x.answer(1, false));
  }

  @Says("-1") void promise12_answer_minus1AskBelow() {
    tenAsks();
    sixViews();
    no(-1, x.answer(-1, false));
    no(-1, x.answer(LEAST, false));
  }

  @Says("-1") void promise12_answer_minus1AskAbove() {
    no(-1, x.answer(0, false));
    tenAsks();
    no(-1, x.answer(10, false));
    no(-1, x.answer(MOST, false));
  }

  @Says("-1") void promise12_answer_minus1ViewBelow() {
    tenAsks();
    sixViews();
    no(-1, x.answer(-1, true));
    no(-1, x.answer(LEAST, true));
  }

  @Says("-1") void promise12_answer_minus1ViewAbove() {
    no(-1, x.answer(0, true));
    tenAsks();
    sixViews();
    no(-1, x.answer(6, true));
    no(-1, x.answer(MOST, true));
  }

  @Says("-1") void promise12_answer_asksAreNoViewsAndViewsNoAsks() {
    asks("0ab", "1ab");
    views("0ab");
    no(-1, x.answer(1, true));
    anew();
    asks("0ab");
    views("0ab", "1ab");
    no(-1, x.answer(1, false));
  }

  // ---- Promise 13

  @Says(STEPS) void promise13_steps_theLeastAndTheGreatestWhat() {
    asks("0ab,0ac:bca");
    due(0, x.steps(0, 0));
    due(3, x.steps(0, 3));
  }

  @Says(STEPS) void promise13_steps_oneRowWithoutHead() {
    asks("000");
    keys(0, 1, 2);
    due(0, x.steps(0, 0));
    due(0, x.steps(0, 1));
    due(1, x.steps(0, 2));
    due(0, x.steps(0, 3));
  }

  @Says(STEPS) void promise13_steps_fourRowsAndAHeadOfThree() {
    asks("0ab,1cd,2ea,0bc:ebd");
    keys(0, 1, 2);
    due(0, x.steps(0, 0));
    due(0, x.steps(0, 1));
    due(4, x.steps(0, 2));
    due(3, x.steps(0, 3));
  }

  @Says(STEPS) void promise13_steps_asManyAsThereCanBe() {
    asks("0ab,0ac,0ad,0ae:bcd");
    keys(0);
    due(3, x.steps(0, 0));
    due(0, x.steps(0, 1));
    due(1, x.steps(0, 2));
    due(3, x.steps(0, 3));
    due(23, x.end(0, 0));
  }

  @Says(STEPS) void promise13_steps_ofNothing() {
    asks("000,001,1aa:a");
    keys(0);
    due(0, x.steps(0, 0));
    due(1, x.steps(0, 1));
    due(3, x.steps(0, 2));
    due(1, x.steps(0, 3));
  }

  @Says("-1") void promise13_steps_minus1AskBelow() {
    asks("0ab");
    no(-1, x.steps(-1, 0));
    no(-1, x.steps(LEAST, 3));
  }

  @Says("-1") void promise13_steps_minus1AskAbove() {
    no(-1, x.steps(0, 0));
    tenAsks();
    no(-1, x.steps(10, 0));
    no(-1, x.steps(MOST, 0));
  }

  @Says("-2") void promise13_steps_minus2WhatBelow() {
    asks("0ab");
    no(-2, x.steps(0, -1));
    no(-2, x.steps(0, LEAST));
  }

  @Says("-2") void promise13_steps_minus2WhatAbove() {
    asks("0ab");
    no(-2, x.steps(0, 4));
    no(-2, x.steps(0, MOST));
  }

  @Says("-1; -2") void promise13_steps_minus1AheadOfMinus2() {
    asks("0ab");
    no(-1, x.steps(1, 4));
    no(-1, x.steps(-1, -1));
  }

  // ---- Promise 14

  private static final String END = "ROW i of its END: 100 TABLE, 10 the first TERM, the other (0, 1; "
      + "NAMES 2 .. 6), together";

  @Says(END) void promise14_end_theLeastAndTheGreatestRow() {
    endIs(0, "000");
    endIs(266, "2ee");
  }

  @Says(END) void promise14_end_theLeastAndTheGreatestOfEachPart() {
    endIs(200, "200");
    endIs(10, "010");
    endIs(1, "001");
    endIs(20, "0a0");
    endIs(60, "0e0");
    endIs(2, "00a");
    endIs(6, "00e");
  }

  @Says(END) void promise14_end_theFirstAndTheLastOfFourRows() {
    asks("000,1ab,2cd,0e1");
    due(0, x.end(0, 0));
    due(123, x.end(0, 1));
    due(245, x.end(0, 2));
    due(61, x.end(0, 3));
  }

  @Says("-9 none") void promise14_end_minus9RowBelow() {
    asks("0ab");
    due(-9, x.end(0, -1));
    due(-9, x.end(0, LEAST));
  }

  @Says("-9 none") void promise14_end_minus9RowAbove() {
    asks("0ab", "0ab,1ab,2ab,0ba");
    due(-9, x.end(0, 1));
    due(-9, x.end(1, 4));
    due(-9, x.end(1, MOST));
  }

  @Says("-9 none") void promise14_end_minus9ARowThatWent() {
    asks("0ab,0ac,0ab");
    due(24, x.end(0, 1));
    due(-9, x.end(0, 2));
    keys(0);
    due(23, x.end(0, 0));
    due(-9, x.end(0, 1));
  }

  @Says("-1") void promise14_end_minus1AskBelow() {
    asks("0ab");
    no(-1, x.end(-1, 0));
    no(-1, x.end(LEAST, 0));
  }

  @Says("-1") void promise14_end_minus1AskAbove() {
    no(-1, x.end(0, 0));
    tenAsks();
    no(-1, x.end(10, 0));
    no(-1, x.end(MOST, 0));
  }

  @Says("-3 it is NOTHING") void promise14_end_minus3() {
    asks("000,001");
    keys(0);
    no(-3, x.end(0, 0));
    no(-3, x.end(0, 1));
    due(1, x.key(0, false));
    due(1, x.end(0, 1));
  }

  @Says("-3 it is NOTHING") void promise14_end_minus3WhateverRow() {
    asks("000,001");
    keys(0);
    no(-3, x.end(0, 2));
    no(-3, x.end(0, -1));
  }

  @Says("-9 none; -1; -3 it is NOTHING") void promise14_end_minus1WhateverRow() {
    asks("0ab");
    no(-1, x.end(1, -1));
    no(-1, x.end(-1, 4));
  }

  // ---- Promises 15 and 16

  private static final String WITHIN = "Whether an ASK lies WITHIN another one: 1, 0";

  @Says(WITHIN) void promise15_within_itself() {
    asks("0ab", "000,001", "0ab,1cd,2ea,0bc:ebd");
    keys(0);
    for (int ask = 0; ask < 3; ask++) {
      due(1, x.within(ask, ask));
    }
  }

  @Says(WITHIN) void promise15_within_theLeastAndTheGreatestNumber() {
    asks("0ab", "1ab", "2ab", "0aa", "1aa", "2aa", "0a0", "1a0", "2a0", "000");
    due(1, x.within(9, 0));
    due(0, x.within(0, 9));
  }

  @Says("-1") void promise15_within_minus1TheFirst() {
    tenAsks();
    no(-1, x.within(-1, 0));
    no(-1, x.within(10, 0));
    no(-1, x.within(LEAST, 0));
    no(-1, x.within(MOST, 0));
  }

  @Says("-1") void promise15_within_minus1TheOther() {
    tenAsks();
    no(-1, x.within(0, -1));
    no(-1, x.within(0, 10));
    no(-1, x.within(0, LEAST));
    no(-1, x.within(0, MOST));
  }

  @Says("-1") void promise15_within_minus1OnceForBoth() {
    no(-1, x.within(0, 0));
    no(-1, x.within(-1, 10));
  }

  @Says("SAME: 1, 0") void promise16_same_itself() {
    asks("0ab", "000,001", "0ab,1cd,2ea,0bc:ebd");
    keys(0);
    for (int ask = 0; ask < 3; ask++) {
      due(1, x.same(ask, ask));
    }
  }

  @Says("SAME: 1, 0") void promise16_same_theLeastAndTheGreatestNumber() {
    asks("0ab", "1ab", "2ab", "0aa", "1aa", "2aa", "0a0", "1a0", "2a0", "0cd");
    due(1, x.same(9, 0));
    due(1, x.same(0, 9));
    due(0, x.same(8, 0));
  }

  @Says("-1") void promise16_same_minus1TheFirst() {
    tenAsks();
    no(-1, x.same(-1, 0));
    no(-1, x.same(10, 0));
    no(-1, x.same(LEAST, 0));
    no(-1, x.same(MOST, 0));
  }

  @Says("-1") void promise16_same_minus1TheOther() {
    tenAsks();
    no(-1, x.same(0, -1));
    no(-1, x.same(0, 10));
    no(-1, x.same(0, LEAST));
    no(-1, x.same(0, MOST));
  }

  @Says("-1") void promise16_same_minus1OnceForBoth() {
    no(-1, x.same(0, 0));
    no(-1, x.same(-1, 10));
  }
}
