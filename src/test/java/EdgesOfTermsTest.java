/** Boundary cases of the Terms, "Said once more" and REFUSALS among them. */
final class EdgesOfTermsTest extends Edges {
  public static void main(String[] args) throws Exception {
    run(EdgesOfTermsTest.class, args);
  }

  /** STEPS of an ASK: how many, whether it is NOTHING, ROWS, how long HEAD is. */
  private void stepsAre(int ask, int... want) {
    for (int what = 0; what < 4; what++) {
      due(want[what], x.steps(ask, what));
    }
  }

  private void endIs(int ask, int... rows) {
    for (int i = 0; i < rows.length; i++) {
      due(rows[i], x.end(ask, i));
    }
    due(-9, x.end(ask, rows.length));
  }

  private void coverIs(int ask, int many, int bits, int asFew) {
    due(many, x.cover(ask, 0));
    due(bits, x.cover(ask, 1));
    due(asFew, x.cover(ask, 2));
  }

  private void showsAre(int ask, int... numbers) {
    due(numbers.length, x.shows(ask));
    for (int i = 0; i < numbers.length; i++) {
      due(numbers[i], x.show(ask, i));
    }
  }

  private void full(int... tables) {
    for (int table : tables) {
      for (int bit = 0; bit < 4; bit++) {
        due(1, x.in(table, bit / 2, bit % 2));
      }
    }
  }

  /** The FAULT of a text, as an ASK and as a VIEW. */
  private void faultIs(int place, String text) {
    due(-20 - place, Due.ask(x, text));
    due(-20 - place, Due.view(x, text));
    due(0, x.count(0) + x.count(1) + x.count(5));
  }

  // ==== I.

  @Says("TABLES 0 .. 2 of rows x, y of VALUES 0, 1") void terms_tables_leastAndGreatestOfEach() {
    rows("000", "211");
    no(-1, x.in(-1, 0, 0));
    no(-1, x.in(3, 0, 0));
    no(-4, x.in(0, -1, 0));
    no(-4, x.in(0, 0, -1));
    no(-6, x.in(2, 2, 1));
    no(-6, x.in(2, 1, 2));
    due(2, x.count(2));
  }

  private static final String KEY =
      "A TABLE may have a KEY (told): then no two rows of it with one x (told only as it is so";

  @Says(KEY) void terms_key_aTableOfTwoRowsIsAsFullAsItGets() {
    keys(1);
    rows("101", "110");
    no(-3, x.in(1, 0, 0));
    no(-3, x.in(1, 1, 1));
    due(6, x.rows(1));
  }

  @Says(KEY) void terms_key_toldOnlyAsItIsSo() {
    full(0);
    no(-3, x.key(0, true));
    due(1, x.out(0, 0, 0));
    no(-3, x.key(0, true));
    due(1, x.out(0, 1, 1));
    due(1, x.key(0, true));
  }

  @Says("rows that would break it are refused)") void terms_key_rowsThatBreakItByInByReadAndByUndo() {
    rows("000");
    due(1, x.out(0, 0, 0));
    rows("001");
    keys(0);
    no(-3, x.in(0, 0, 0));
    put(0, 0, 0);
    due(0, x.read());
    due(1, x.undo());
    due(1, x.undo());
    due(1, x.rows(0));
    anew();
    rows("000", "001");
    due(1, x.out(0, 0, 0));
    keys(0);
    no(-3, x.undo());
    due(2, x.rows(0));
  }

  private static final String PICTURE = "A PICTURE is read from a TEXT (24 bytes at most): ROW { \",\" ROW } "
      + "[ \":\" HEAD ]: a ROW: a digit 0 .. 2 (TABLE) and two TERMS: a NAME (a letter a .. e) or a VALUE (0, 1)";

  /** The FAULT of a text in which one byte, at a place, was put for what stood there; -1 if none. */
  private static int faultOf(int place, char sign) {
    int inRow = place % 4;
    if (place > 18) {
      return place;
    }
    if (place > 15) {
      return sign == 'a' || sign == 'b' ? -1 : place;
    }
    if (inRow == 0) {
      return sign >= '0' && sign <= '2' ? -1 : place;
    }
    if (inRow < 3) {
      return sign == '0' || sign == '1' || sign >= 'a' && sign <= 'e' ? -1 : place;
    }
    boolean isLast = place == 15;
    if (sign == ',') {
      return isLast ? place + 1 : -1;
    }
    return sign == ':' ? isLast ? -1 : place + 1 : place;
  }

  @Says(PICTURE) void terms_picture_everyByteAtEveryPlace() {
    String whole = "0ab,1ab,2ab,0ab:aba";
    for (int place = 0; place <= whole.length(); place++) {
      for (char sign = 0; sign < 256; sign++) {
        String text = whole.substring(0, place) + sign + whole.substring(Math.min(place + 1, whole.length()));
        int fault = faultOf(place, sign);
        x = new KeptAnswers();
        due(fault < 0 ? 0 : -20 - fault, Due.ask(x, text));
        due(fault < 0 ? 0 : -20 - fault, Due.view(x, text));
      }
    }
  }

  @Says(PICTURE) void terms_picture_everyRow() {
    String terms = "01abcde";
    for (int i = 0; i < 3 * 7 * 7; i++) {
      x = new KeptAnswers();
      ask("" + i / 49 + terms.charAt(i / 7 % 7) + terms.charAt(i % 7));
      due(100 * (i / 49) + 10 * (i / 7 % 7) + i % 7, x.end(0, 0));
    }
  }

  @Says(PICTURE) void terms_picture_aTextOf24BytesHasAFault() {
    faultIs(19, "0ab,1ab,2ab,0ab:abaaaaaa");
    faultIs(16, "0ab,0ab,0ab,0ab,0ab,0ab,");
  }

  @Says("4 ROWS at most") void terms_rows_oneToFour() {
    asks("0ab", "0ab,0bc", "0ab,0bc,0cd", "0ab,0bc,0cd,0de");
    for (int ask = 0; ask < 4; ask++) {
      due(ask + 1, x.steps(ask, 2));
    }
  }

  @Says("4 ROWS at most") void terms_rows_aFifthIsAFault() {
    faultIs(16, "0ab,0ab,0ab,0ab,0ab");
    faultIs(16, "0ab,0ab,0ab,0ab,0ab:a");
  }

  private static final String HEAD = "HEAD: 1 to 3 NAMES that stand in a ROW (one twice may be)";

  @Says(HEAD) void terms_head_oneToThreeNames() {
    asks("0ab:a", "0ab:ab", "0ab,0bc:abc");
    for (int ask = 0; ask < 3; ask++) {
      due(ask + 1, x.steps(ask, 3));
    }
  }

  @Says(HEAD) void terms_head_oneNameTwiceAndThreeTimes() {
    asks("0ab:aa", "0ab:bbb", "0ab:aba");
    rows("001");
    due(1, x.answer(0, false));
    due(1 << 7, x.answer(1, false));
    due(1 << 2, x.answer(2, false));
  }

  @Says(HEAD) void terms_head_aNameOfAnyRowAndEitherPlace() {
    asks("0ab,1cd,20e:e", "0ab,1cd,20e:c", "0ab,1cd,20e:bda");
    due(3, x.steps(2, 3));
  }

  @Says(HEAD) void terms_head_aValueIsNoName() {
    faultIs(4, "0a1:1");
    faultIs(5, "0a1:a1");
    faultIs(4, "001:0");
  }

  @Says("without \":\" none") void terms_head_none() {
    asks("0ab", "0ab:a");
    due(0, x.steps(0, 3));
    due(1, x.steps(1, 3));
  }

  @Says("FAULT: the place of the first byte that can not stand (the end, if something lacks")
  void terms_fault_theEndOfEveryTextThatLacksSomething() {
    String whole = "0ab,1cd,2ea,0bc:ebd";
    for (int length = 0; length <= whole.length(); length++) {
      x = new KeptAnswers();
      boolean stands = length % 4 == 3 && length < 16 || length > 16;
      due(stands ? 0 : -20 - length, Due.ask(x, whole.substring(0, length)));
      due(stands ? 0 : -20 - length, Due.view(x, whole.substring(0, length)));
    }
  }

  @Says("FAULT: the place of the first byte that can not stand (the end, if something lacks")
  void terms_fault_theFirstOfSeveral() {
    faultIs(0, "????");
    faultIs(1, "0?b,3ab");
    faultIs(4, "0ab,3ab:f");
    faultIs(4, "0ab:fg");
  }

  @Says("of a fifth ROW its first") void terms_fault_ofAFifthRowItsFirst() {
    faultIs(16, "0ab,0ab,0ab,0ab,0ab");
    faultIs(16, "0ab,0ab,0ab,0ab,0a");
    faultIs(16, "0ab,0ab,0ab,0ab,9?");
  }

  @Says("of a NAME in HEAD that stands in no ROW its own") void terms_fault_ofANameThatStandsInNoRow() {
    faultIs(4, "0ab:c");
    faultIs(5, "0ab:ac");
    faultIs(6, "0ab:abc");
    faultIs(4, "0ab:cde");
    faultIs(4, "000:a");
  }

  @Says("of a fourth one its own)") void terms_fault_ofAFourthNameInHead() {
    faultIs(7, "0ab:abab");
    faultIs(7, "0ab:aaaaa");
    faultIs(7, "0ab:abac");
    faultIs(19, "0ab,1cd,2ea,0bc:ebda");
  }

  private static final String NUMBERS =
      "ASKS (10 at most) and VIEWS (6 at most) are PICTURES with numbers from 0 on";

  @Says(NUMBERS) void terms_numbers_tenAsksAndSixViews() {
    for (int i = 0; i < 10; i++) {
      due(i, Due.ask(x, "0ab"));
    }
    for (int i = 0; i < 6; i++) {
      due(i, Due.view(x, "0ab"));
    }
    no(-6, Due.ask(x, "0ab"));
    no(-6, x.view());
  }

  private static final String ANSWER = "ANSWER of a PICTURE: all rows that HEAD takes as NAMES get VALUES by which "
      + "each ROW is in its TABLE: bits (bit of a row: VALUES of HEAD's NAMES as digits to the base 2, "
      + "the first the lowest";

  @Says(ANSWER) void terms_answer_theFirstNameIsTheLowestDigit() {
    asks("0ab:ab", "0ab:ba", "0ab,0bc:abc", "0ab,0bc:cba");
    rows("010", "000");
    due(1 << 1 | 1, x.answer(0, false));
    due(1 << 2 | 1, x.answer(1, false));
    due(1 << 1 | 1, x.answer(2, false));
    due(1 << 4 | 1, x.answer(3, false));
  }

  @Says(ANSWER) void terms_answer_ofOneNameTwice() {
    asks("0ab:aa", "0ab:aba");
    rows("010", "001");
    due(1 << 3 | 1, x.answer(0, false));
    due(1 << 5 | 1 << 2, x.answer(1, false));
  }

  @Says(ANSWER) void terms_answer_emptyAndFullTables() {
    asks("0ab,1bc,2cd:abc", "0a1,10a:a");
    due(0, x.answer(0, false));
    due(0, x.answer(1, false));
    full(0, 1);
    due(0, x.answer(0, false));
    due(3, x.answer(1, false));
    full(2);
    due(255, x.answer(0, false));
  }

  @Says(ANSWER) void terms_answer_oneRowThatIsNotThere() {
    asks("0ab,0bc,0cd,0de:ae");
    full(0);
    due(15, x.answer(0, false));
    due(1, x.out(0, 1, 1));
    due(1, x.out(0, 0, 0));
    due(1 | 8, x.answer(0, false));
    due(1, x.out(0, 0, 1));
    due(0, x.answer(0, false));
  }

  @Says(ANSWER) void terms_answer_aRowOfValuesAlone() {
    asks("001,0ab:a");
    rows("010");
    due(0, x.answer(0, false));
    rows("001");
    due(3, x.answer(0, false));
  }

  @Says("without HEAD bit 0)") void terms_answer_withoutHead() {
    asks("0ab", "001");
    due(0, x.answer(0, false));
    rows("010");
    due(1, x.answer(0, false));
    due(0, x.answer(1, false));
    full(1);
    rows("001", "000", "011");
    due(1, x.answer(0, false));
    due(1, x.answer(1, false));
  }

  // ==== II.

  @Says("STEPS of a PICTURE: ROWS that are like one ahead go") void terms_steps_likeRowsGoWithoutAnyKey() {
    asks("0ab,0ab,0ab,0ab", "0ab,1ab,0ab,0ba", "000,000");
    stepsAre(0, 0, 0, 1, 0);
    endIs(0, 23);
    endIs(1, 23, 123, 32);
    endIs(2, 0);
  }

  private static final String NOTHING = "as long as two ROWS of a TABLE with a KEY have one TERM first and unlike "
      + "ones behind (of several the first two, by the first ROW, then the second): if both behind are VALUES, "
      + "it is NOTHING (no tables give a row of it) and it ends";

  @Says(NOTHING) void terms_steps_nothing() {
    asks("000,001", "0a1,0a0", "000,0a1", "0a0,0b1", "000,101", "000,011");
    keys(0);
    int[] nothing = {1, 1, 0, 0, 0, 0};
    for (int ask = 0; ask < nothing.length; ask++) {
      due(nothing[ask], x.steps(ask, 1));
      due(2, x.steps(ask, 2));
    }
  }

  @Says(NOTHING) void terms_steps_noStepWithoutAKeyOfThatTable() {
    asks("0ab,0ac", "000,001");
    keys(1, 2);
    stepsAre(0, 0, 0, 2, 0);
    stepsAre(1, 0, 0, 2, 0);
    keys(0);
    stepsAre(0, 1, 0, 1, 0);
    stepsAre(1, 0, 1, 2, 0);
    due(1, x.key(0, false));
    stepsAre(0, 0, 0, 2, 0);
    stepsAre(1, 0, 0, 2, 0);
  }

  @Says(NOTHING) void terms_steps_firstByTheFirstRow() {
    asks("0ab,1c0,1c1,0a0", "1c0,0ab,1c1,0a0");
    keys(0, 1);
    stepsAre(0, 1, 1, 3, 0);
    stepsAre(1, 0, 1, 4, 0);
  }

  @Says(NOTHING) void terms_steps_thenByTheSecondRow() {
    asks("00b,000,001,0b1", "00b,001,000,0b1");
    keys(0);
    stepsAre(0, 1, 1, 2, 0);
    stepsAre(1, 1, 1, 3, 0);
  }

  @Says(NOTHING) void terms_steps_itEndsThoughMoreStepsCouldBeTaken() {
    asks("000,001,1ab,1ac:bc");
    keys(0, 1);
    stepsAre(0, 0, 1, 4, 2);
    anew();
    asks("1ab,1ac,000,001:bc");
    keys(0, 1);
    stepsAre(0, 1, 1, 3, 2);
  }

  @Says(NOTHING) void terms_steps_nothingBehindManySteps() {
    asks("0ab,0ac,0bd,0c0", "0ab,0a0,0bc,001");
    keys(0);
    stepsAre(0, 2, 0, 2, 0);
    endIs(0, 23, 30);
    stepsAre(1, 2, 0, 2, 0);
    endIs(1, 20, 1);
    ask("0ab,0a0,0b0,001");
    stepsAre(2, 1, 1, 3, 0);
  }

  private static final String ONE_FOR_THE_OTHER = "else one goes for the other in all of it, HEAD too: a NAME for a "
      + "VALUE, the later NAME (by letters) for the earlier one";

  @Says(ONE_FOR_THE_OTHER) void terms_steps_aNameForAValueWhicheverIsAhead() {
    asks("0ab,0a0", "0a0,0ab", "0ab,0a1", "0a1,0ab", "0ea,0e1");
    keys(0);
    int[] want = {20, 20, 21, 21, 61};
    for (int ask = 0; ask < want.length; ask++) {
      stepsAre(ask, 1, 0, 1, 0);
      endIs(ask, want[ask]);
    }
  }

  @Says(ONE_FOR_THE_OTHER) void terms_steps_theLaterNameForTheEarlierWhicheverIsAhead() {
    asks("0ab,0ac", "0ac,0ab", "0ae,0ad", "0ea,0ee", "0bb,0ba");
    keys(0);
    int[] want = {23, 23, 25, 62, 22};
    for (int ask = 0; ask < 3; ask++) {
      stepsAre(ask, 1, 0, 1, 0);
      endIs(ask, want[ask]);
    }
    endIs(3, 22);
    endIs(4, 22);
  }

  @Says(ONE_FOR_THE_OTHER) void terms_steps_inAllOfItAndInBothPlaces() {
    asks("0ab,0ac,1cc,2cd", "0ab,0a0,1bb,2db");
    keys(0);
    endIs(0, 23, 133, 235);
    endIs(1, 20, 100, 250);
  }

  @Says(ONE_FOR_THE_OTHER) void terms_steps_inHeadToo() {
    asks("0ab,0ac:bc", "0ab:bb", "0ab,0a1:b", "0a1:a");
    due(0, x.within(0, 1));
    keys(0);
    due(1, x.within(0, 1));
    due(2, x.steps(0, 3));
    due(1, x.steps(2, 3));
    due(0, x.within(3, 2));
    ask("0ab:b");
    due(1, x.within(2, 4));
    due(0, x.within(4, 2));
  }

  @Says("ROWS that are like one ahead go then") void terms_steps_rowsThatBecomeAlikeGo() {
    asks("0ab,1bd,1cd,0ac", "1cd,1bd,0ab,0ac");
    keys(0);
    endIs(0, 23, 135);
    endIs(1, 135, 23);
    stepsAre(0, 1, 0, 2, 0);
  }

  @Says("What is left is its END") void terms_steps_endWithoutStepsIsThePicture() {
    asks("2ee,1dd,0cc,0bb:bcd");
    keys(0, 1, 2);
    stepsAre(0, 0, 0, 4, 3);
    endIs(0, 266, 155, 44, 33);
  }

  @Says("What is left is its END") void terms_steps_oneRowIsLeftOfFour() {
    asks("0ab,0ac,0ad,0ae", "0aa,0ab,0bc,0ca");
    keys(0);
    stepsAre(0, 3, 0, 1, 0);
    endIs(0, 23);
    stepsAre(1, 2, 0, 1, 0);
    endIs(1, 22);
  }

  private static final String WITHIN = "WITHIN: a PICTURE p lies within q (HEADS as long), if p is NOTHING, or NAMES "
      + "of q can be led to TERMS of p's END (each ROW of q to a ROW of it, HEAD of q to HEAD of it place by place)";

  @Says(WITHIN) void terms_within_headsAsLong() {
    asks("0ab", "0ab:a", "0ab:ab", "0ab:aba");
    for (int a = 0; a < 4; a++) {
      for (int b = 0; b < 4; b++) {
        due(a == b ? 1 : 0, x.within(a, b));
      }
    }
  }

  @Says(WITHIN) void terms_within_nothingLiesWithinAll() {
    asks("000,001", "2ab", "000,001,0ab:a", "2ab:a", "110,111");
    due(0, x.within(0, 1));
    due(0, x.within(2, 3));
    keys(0);
    due(1, x.within(0, 1));
    due(1, x.within(2, 3));
    due(1, x.within(0, 0));
    due(1, x.within(0, 4));
    due(0, x.within(4, 0));
  }

  @Says(WITHIN) void terms_within_headsOfANothingMustBeAsLongToo() {
    asks("000,001", "2ab:a", "000,001,0ab:a", "2ab");
    keys(0);
    due(0, x.within(0, 1));
    due(0, x.within(2, 3));
  }

  @Says(WITHIN) void terms_within_headPlaceByPlace() {
    asks("0ab:ab", "0ab:ba", "0ab,0ba:ab");
    due(0, x.within(0, 1));
    due(0, x.within(1, 0));
    due(1, x.within(2, 0));
    due(1, x.within(2, 1));
    due(0, x.within(0, 2));
  }

  @Says(WITHIN) void terms_within_eachRowToARow() {
    asks("0ab,0bc,0cd,0da", "0ab,0ba", "0aa", "0ab,0bc,0cd,0de", "0ab,1ab");
    int[][] want = {{1, 0, 0, 1, 0}, {1, 1, 0, 1, 0}, {1, 1, 1, 1, 0}, {0, 0, 0, 1, 0}, {0, 0, 0, 0, 1}};
    for (int a = 0; a < 5; a++) {
      for (int b = 0; b < 5; b++) {
        due(want[a][b], x.within(a, b));
      }
    }
  }

  @Says(WITHIN) void terms_within_aValueIsLedToItselfAlone() {
    asks("0a0", "0a1", "0ab", "000");
    int[][] want = {{1, 0, 1, 0}, {0, 1, 1, 0}, {0, 0, 1, 0}, {1, 0, 1, 1}};
    for (int a = 0; a < 4; a++) {
      for (int b = 0; b < 4; b++) {
        due(want[a][b], x.within(a, b));
      }
    }
  }

  @Says(WITHIN) void terms_within_byTheEndOfP() {
    asks("0ab,0ac:bc", "0ab:bb", "0ab,0a1", "0c1");
    due(0, x.within(0, 1));
    keys(0);
    due(1, x.within(0, 1));
    due(1, x.within(2, 3));
  }

  @Says("SAME: each within the other") void terms_same_eachWithinTheOther() {
    asks("0ab", "0cd", "0ab,0cd", "0aa", "0ab:a");
    int[] want = {1, 1, 1, 0, 0};
    for (int b = 0; b < 5; b++) {
      due(want[b], x.same(0, b));
      due(want[b], x.same(b, 0));
    }
  }

  @Says("SAME: each within the other") void terms_same_twoThatAreNothing() {
    asks("000,001", "110,111", "000,001,0ab:a");
    due(0, x.same(0, 1));
    keys(0);
    due(0, x.same(0, 1));
    keys(1);
    due(1, x.same(0, 1));
    due(0, x.same(0, 2));
  }

  // ==== III.

  private static final String SHOWS = "SHOWS of an ASK: of each VIEW all rows of TERMS to which its HEAD goes as its "
      + "NAMES are led to TERMS of the ASK's END (each ROW to a ROW): by VIEWS, then by TERMS in order (VALUES "
      + "ahead of NAMES, by size, the first TERM counts most): each once";

  @Says(SHOWS) void terms_shows_byViewsAheadOfTerms() {
    views("0ab:b", "0ab:a");
    asks("0ea,00e");
    showsAre(0, 3, 7, 1001, 1007);
  }

  @Says(SHOWS) void terms_shows_valuesAheadOfNamesBySize() {
    views("0ab:b");
    asks("0ee,0ea,0e1,0e0");
    showsAre(0, 1, 2, 3, 7);
  }

  @Says(SHOWS) void terms_shows_theFirstTermCountsMost() {
    views("0ab:ab", "0ab:ba");
    asks("01a,0a0,00b");
    showsAre(0, 41, 32, 13, 1031, 1023, 1014);
  }

  @Says(SHOWS) void terms_shows_theSecondTermAheadOfTheThird() {
    views("0ab,0bc:acb");
    asks("0ab,0b0,01e,0a1");
    showsAre(0, 413, 273);
  }

  @Says(SHOWS) void terms_shows_eachOnce() {
    views("0ab:a", "0ab,0cd", "0ab,0cd:ac");
    asks("0ab,0ac,0ad,0ae");
    showsAre(0, 3, 1000, 2033);
  }

  @Says(SHOWS) void terms_shows_aValueOfAViewIsLedToItself() {
    views("0a1:a", "00a:a");
    asks("0a0,0b1,00c", "0ab");
    showsAre(0, 4, 1005);
    showsAre(1);
  }

  @Says(SHOWS) void terms_shows_ofTheEnd() {
    views("0ab:ab");
    asks("0ab,0ac");
    showsAre(0, 43, 53);
    keys(0);
    showsAre(0, 43);
    due(1, x.key(0, false));
    showsAre(0, 43, 53);
  }

  @Says("12 at most, else SPENT") void terms_shows_twelveAndThirteen() {
    views("0ab:ab", "0ab:ba", "0ab:aba");
    asks("0ab,0bc,0cd,0de");
    due(12, x.shows(0));
    views("0ab,0bc:ac");
    no(-5, x.shows(0));
    no(-5, x.plan(0));
  }

  @Says("12 at most, else SPENT") void terms_shows_thirteenUntilAKeyTakesSomeAway() {
    views("0ab:ab", "0ab:ba", "0ab:aba", "0ab");
    asks("0ab,0ac,0ad,0ae");
    no(-5, x.shows(0));
    keys(0);
    due(4, x.shows(0));
    due(1, x.cover(0, 0));
  }

  private static final String COVER = "(None of an ASK that is NOTHING.) A COVER: a set of 1 to 3 SHOWS whose OPENED "
      + "picture lies within the ASK: all ROWS of their VIEWS, with TERMS of the SHOW for HEAD's NAMES (where a "
      + "NAME stands twice in HEAD its TERMS are one by then), other NAMES new ones for each";

  @Says(COVER) void terms_shows_noneOfNothing() {
    views("0ab", "0ab:ab", "000");
    asks("000,001,0ab");
    due(5, x.shows(0));
    keys(0);
    showsAre(0);
  }

  @Says(COVER) void terms_cover_ofOneTwoAndThreeShows() {
    views("0ab:ab", "1ab:ab", "2ab:ab");
    asks("0ab", "0ab,1bc", "0ab,1bc,2ca");
    coverIs(0, 1, 1, 1);
    coverIs(1, 2, 3, 1);
    coverIs(2, 3, 7, 1);
  }

  @Says(COVER) void terms_cover_fourShowsAreNone() {
    views("0ab:ab", "1ab:ab", "2ab:ab");
    asks("0ab,1bc,2cd,0de");
    due(4, x.shows(0));
    coverIs(0, -9, -9, -9);
    due(0, x.may(0, 7));
  }

  @Says(COVER) void terms_cover_termsOfTheShowForHeadsNames() {
    views("0ab:ab", "0ab:a");
    asks("0a1:a", "0ab:a", "001");
    coverIs(0, 1, 1, 1);
    due(0, x.covers(0, 2));
    coverIs(1, 1, 1, 2);
    coverIs(2, 1, 1, 1);
  }

  @Says(COVER) void terms_cover_otherNamesAreNewOnesForEach() {
    views("0ab:a", "1bc:c", "0ab,1bc:a");
    asks("0ab,1bc:ac", "0ab,1dc:ac");
    coverIs(0, -9, -9, -9);
    due(0, x.covers(0, 3));
    coverIs(1, 2, 3, 1);
  }

  @Says(COVER) void terms_cover_newNamesOfTwoShowsOfOneView() {
    views("0ab:a");
    asks("0ab,0cb:ac", "0ab,0cd:ac");
    due(2, x.shows(0));
    coverIs(0, -9, -9, -9);
    coverIs(1, 2, 3, 1);
  }

  @Says(COVER) void terms_cover_aNameTwiceInHead() {
    views("0ab:aab");
    asks("0ab:ab", "0ab,0cd:ac");
    showsAre(0, 433);
    coverIs(0, 1, 1, 1);
    showsAre(1, 433, 655);
    coverIs(1, 2, 3, 1);
  }

  private static final String COVERS_HEAD =
      "its HEAD is that of the ASK's END (each NAME of it must be in some SHOW, else it is none)";

  @Says(COVERS_HEAD) void terms_cover_eachNameOfHeadMustBeInSomeShow() {
    views("0ab:a", "0ab:b", "0ab");
    asks("0ab:a", "0ab:b", "0ab");
    coverIs(0, 1, 1, 1);
    coverIs(1, 1, 2, 1);
    coverIs(2, 1, 1, 3);
    due(0, x.covers(0, 6));
    due(1, x.covers(0, 5));
  }

  @Says(COVERS_HEAD) void terms_cover_twoNamesOfHeadInTwoShows() {
    views("0ab,1cd:a", "0ab,1cd:c");
    asks("0ab,1cd:ac");
    coverIs(0, 2, 3, 1);
    due(0, x.covers(0, 1));
    due(0, x.covers(0, 2));
  }

  @Says(COVERS_HEAD) void terms_cover_aValueInHeadOfTheEndNeedsNoShow() {
    views("0a1");
    asks("0ab,0a1:b", "0ab:b");
    coverIs(0, -9, -9, -9);
    keys(0);
    coverIs(0, 1, 1, 1);
    coverIs(1, -9, -9, -9);
  }

  @Says(COVERS_HEAD) void terms_cover_aNameThatWentNeedsNoShow() {
    views("0ab:b");
    asks("0ab,0ac:c");
    due(2, x.shows(0));
    coverIs(0, 1, 2, 1);
    keys(0);
    showsAre(0, 4);
    coverIs(0, 1, 1, 1);
  }

  @Says("LEAST: with the fewest SHOWS") void terms_least_fewestAheadOfBits() {
    views("0ab:ab", "1ab:ab", "0ab,1bc:ac");
    asks("0ab,1bc:ac");
    due(3, x.shows(0));
    due(1, x.covers(0, 3));
    coverIs(0, 1, 4, 1);
  }

  @Says("of several the least as bits") void terms_least_ofSeveralTheLeastAsBits() {
    views("0ab,1cd:ac", "0ab:ab", "1ab:ab", "0ab:ba");
    asks("0ab,1bc:abc");
    coverIs(0, 2, 6, 2);
    due(1, x.covers(0, 12));
  }

  @Says("(An ASK that is NOTHING needs none: its COVER is the empty set") void terms_cover_ofNothingTheEmptySet() {
    views("0ab");
    asks("000,001");
    keys(0);
    coverIs(0, 0, 0, 1);
    due(1, x.covers(0, 0));
  }

  private static final String MAY =
      "only of such.) MAY: with rights to VIEWS (bits): there is a COVER of SHOWS of these alone";

  @Says(MAY) void terms_cover_theEmptySetOnlyOfNothing() {
    views("0ab");
    asks("0ab", "1ab", "000,001");
    for (int ask = 0; ask < 3; ask++) {
      due(0, x.covers(ask, 0));
      due(0, x.may(ask, 0));
    }
    keys(0);
    for (int ask = 0; ask < 3; ask++) {
      due(ask == 2 ? 1 : 0, x.covers(ask, 0));
      due(ask == 2 ? 1 : 0, x.may(ask, 0));
    }
  }

  @Says(MAY) void terms_may_ofTheseAlone() {
    views("0ab:ab", "1ab:ab", "2ab:ab");
    asks("0ab,1bc,2cd");
    for (int views = 0; views < 8; views++) {
      due(views == 7 ? 1 : 0, x.may(0, views));
    }
  }

  @Says(MAY) void terms_may_twoShowsOfOneView() {
    views("1ab", "0ab:ab");
    asks("0ab,0bc");
    int[] want = {0, 0, 1, 1};
    for (int views = 0; views < 4; views++) {
      due(want[views], x.may(0, views));
    }
  }

  @Says(MAY) void terms_may_aCoverThatIsNotTheLeast() {
    views("0ab,1bc", "0ab:ab", "1ab:ab");
    asks("0ab,1bc");
    due(1, x.may(0, 1));
    due(1, x.may(0, 6));
    due(0, x.may(0, 2));
    due(0, x.may(0, 4));
  }

  // ==== IV.

  @Says("KEPT are answers of VIEWS as TABLES are as they are KEPT (bits of rows)")
  void terms_kept_asTablesAreThen() {
    views("0ab:ab");
    asks("0ab:ab");
    rows("001");
    due(4, x.keep(0, true));
    rows("010");
    due(4, x.sure(0, 0));
    due(4, x.sure(0, 1));
    due(6, x.answer(0, true));
  }

  private static final String WORLDS = "WORLDS: all tables (12 bits: TABLE t's row x, y is bit 4 t and 2 x and y) in "
      + "which KEYS hold and each KEPT VIEW has just its answer";

  @Says(WORLDS) void terms_worlds_eachBitIsOneRow() {
    for (int bit = 0; bit < 12; bit++) {
      anew();
      String text = "" + bit / 4 + bit / 2 % 2 + bit % 2;
      views(text);
      asks(text, "0ab:ab", "1ab:ab", "2ab:ab");
      due(1, x.in(bit / 4, bit / 2 % 2, bit % 2));
      due(1, x.keep(0, true));
      due(2048, x.worlds());
      due(1, x.sure(0, 0));
      for (int table = 0; table < 3; table++) {
        due(table == bit / 4 ? 1 << bit / 2 % 2 + 2 * (bit % 2) : 0, x.sure(1 + table, 0));
        due(15, x.sure(1 + table, 1));
      }
    }
  }

  @Says(WORLDS) void terms_worlds_keysHold() {
    int[] want = {4096, 2304, 1296, 729};
    for (int many = 0; many < 4; many++) {
      due(want[many], x.worlds());
      if (many < 3) {
        keys(many);
      }
    }
  }

  @Says(WORLDS) void terms_worlds_justItsAnswerNoRowMoreOrLess() {
    views("0ab:ab");
    rows("000", "011");
    due(9, x.keep(0, true));
    due(256, x.worlds());
    rows("010");
    due(11, x.keep(0, true));
    due(256, x.worlds());
  }

  @Says(WORLDS) void terms_worlds_ofTheTablesNowTheyNeedNotBeOne() {
    views("0ab", "0ab:a");
    asks("0ab");
    due(0, x.keep(0, true));
    rows("000");
    due(256, x.worlds());
    due(0, x.sure(0, 1));
    due(1, x.keep(1, true));
    due(0, x.worlds());
  }

  @Says("SURELY: rows that are in an ASK's ANSWER in all WORLDS") void terms_surely_allWorldsButOne() {
    views("0ab", "1ab");
    asks("0ab:a", "0ab");
    rows("000");
    due(1, x.keep(0, true));
    due(1, x.sure(1, 0));
    due(0, x.sure(0, 0));
    due(3, x.sure(0, 1));
  }

  @Says("COULD: in some") void terms_could_oneWorldAlone() {
    views("0ab:a", "0ab:b", "1ab", "2ab");
    asks("0ab:ab", "0ab,0ba:a");
    rows("000", "011");
    for (int view = 0; view < 4; view++) {
      x.keep(view, true);
    }
    due(7, x.worlds());
    due(15, x.sure(0, 1));
    due(0, x.sure(0, 0));
    due(3, x.sure(1, 1));
    due(3, x.sure(1, 0));
  }

  private static final String BESIDES = "BESIDES: the fewest other VIEWS (bits) that, if their answers (by TABLES now) "
      + "were KEPT, too, would make SURELY and COULD one (there must be a WORLD)";

  @Says(BESIDES) void terms_besides_theFewest() {
    views("0ab:a", "0ab:b", "1ab", "0ab:ab");
    asks("0ab:ab");
    rows("001");
    due(8, x.besides(0));
  }

  @Says(BESIDES) void terms_besides_otherViewsThanTheKeptOnes() {
    views("0ab");
    asks("0ab");
    due(0, x.keep(0, true));
    due(0, x.besides(0));
    asks("0ab:a");
    rows("000");
    due(0, x.besides(1));
    due(1, x.keep(0, true));
    due(-9, x.besides(1));
    due(-9, x.keep(0, false));
    due(-9, x.besides(1));
  }

  @Says(BESIDES) void terms_besides_byTablesNow() {
    views("0ab", "0ab:ab");
    asks("0ab:a");
    due(1, x.besides(0));
    rows("000");
    due(2, x.besides(0));
  }

  @Says(BESIDES) void terms_besides_thereMustBeAWorld() {
    views("0ab", "0ab:ab");
    asks("0ab:a", "1ab");
    due(0, x.keep(0, true));
    rows("000");
    due(0, x.besides(0));
    due(-9, x.besides(1));
    due(1, x.keep(1, true));
    due(0, x.worlds());
    due(-9, x.besides(0));
  }

  @Says(BESIDES) void terms_besides_aViewThatLeavesNoWorldDoesNotHelp() {
    views("0ab", "0ab:ab", "1ab");
    asks("1ab");
    due(0, x.keep(0, true));
    rows("000");
    due(4, x.besides(0));
    anew();
    views("0ab", "0ab:ab");
    asks("1ab");
    due(0, x.keep(0, true));
    rows("000");
    due(-9, x.besides(0));
  }

  @Says("of several the least as bits") void terms_besides_ofSeveralTheLeastAsBits() {
    views("1ab", "0ab:a", "0ab:b", "0ab");
    asks("0ab");
    due(2, x.besides(0));
    rows("000");
    due(2, x.besides(0));
  }

  @Says("-9 none") void terms_besides_minus9() {
    views("1ab", "2ab");
    asks("0ab");
    due(-9, x.besides(0));
  }

  @Says("A WEEK: a WEIGHT of each ASK (0 .. 99") void terms_week_weight() {
    asks("0ab");
    no(-4, x.weight(0, -1));
    due(0, x.weight(0, 0));
    due(0, x.weight(0, 99));
    no(-6, x.weight(0, 100));
    due(99, x.weight(0, 99));
  }

  private static final String SIZE = "0 at first), of each VIEW a SIZE and a MEND (0 .. 99";

  @Says(SIZE) void terms_week_weightIs0AtFirst() {
    for (int i = 0; i < 10; i++) {
      ask("0ab");
      due(0, x.cost(0));
      due(0, x.weight(i, 0));
    }
  }

  @Says(SIZE) void terms_week_sizeAndMend() {
    views("0ab");
    no(-4, x.size(0, -1, 0));
    no(-4, x.size(0, 0, -1));
    due(1, x.size(0, 0, 0));
    due(1, x.size(0, 99, 99));
    no(-6, x.size(0, 100, 99));
    no(-6, x.size(0, 99, 100));
    due(99, x.cost(1));
  }

  private static final String ROOM = "0 at first), ROOM (0 .. 999";

  @Says(ROOM) void terms_week_sizeAndMendAre0AtFirst() {
    views("0ab", "0ab", "0ab", "0ab", "0ab", "0ab");
    asks("0ab");
    due(0, x.weight(0, 1));
    due(1, x.cost(63));
    due(99, x.set(0, 0));
    due(1, x.which(0));
  }

  @Says(ROOM) void terms_week_room() {
    no(-4, x.set(0, -1));
    due(99, x.set(0, 0));
    due(0, x.set(0, 999));
    no(-6, x.set(0, 1000));
    due(999, x.set(0, 999));
  }

  private static final String AWAY = "99 at first), AWAY (0 .. 99: what an ASK costs that has no COVER";

  @Says(AWAY) void terms_week_roomIs99AtFirst() {
    due(99, x.set(0, 99));
  }

  @Says(AWAY) void terms_week_away() {
    no(-4, x.set(1, -1));
    due(10, x.set(1, 0));
    due(0, x.set(1, 99));
    no(-6, x.set(1, 100));
    due(99, x.set(1, 99));
  }

  @Says(AWAY) void terms_week_whatAnAskWithoutACoverCosts() {
    asks("0ab");
    due(0, x.weight(0, 3));
    due(30, x.cost(0));
    due(10, x.set(1, 0));
    due(0, x.cost(0));
    due(0, x.set(1, 99));
    due(297, x.cost(0));
  }

  private static final String COST = "10 at first): COST of a set of VIEWS: MENDS of them, and over ASKS WEIGHT times "
      + "(1 with a COVER by them, else AWAY)";

  @Says(COST) void terms_week_awayIs10AtFirst() {
    due(10, x.set(1, 10));
  }

  @Says(COST) void terms_cost_mendsAndAsks() {
    views("0ab", "1ab");
    asks("0ab", "1ab", "2ab");
    due(1, x.size(0, 9, 3));
    due(1, x.size(1, 9, 4));
    due(0, x.weight(0, 1));
    due(0, x.weight(1, 2));
    due(0, x.weight(2, 5));
    due(80, x.cost(0));
    due(3 + 1 + 20 + 50, x.cost(1));
    due(4 + 10 + 2 + 50, x.cost(2));
    due(7 + 1 + 2 + 50, x.cost(3));
  }

  @Says("WHICH: the set with SIZES of ROOM or less together that costs least") void terms_which_justRoom() {
    views("0ab");
    asks("0ab");
    due(0, x.weight(0, 1));
    due(1, x.size(0, 50, 8));
    due(99, x.set(0, 50));
    due(1, x.which(0));
    due(9, x.which(1));
    due(50, x.set(0, 49));
    due(0, x.which(0));
    due(10, x.which(1));
  }

  @Says("of several fewer VIEWS, then the least as bits") void terms_which_ofSeveral() {
    views("0ab:a", "0ab:b", "0ab:ab", "0ab:ab");
    asks("0ab:a", "0ab:b");
    due(0, x.which(0));
    due(0, x.weight(0, 1));
    due(1, x.which(0));
    due(0, x.weight(1, 1));
    due(4, x.which(0));
    due(1, x.size(2, 99, 9));
    due(1, x.size(3, 99, 9));
    due(3, x.which(0));
  }

  @Says("of several fewer VIEWS, then the least as bits") void terms_which_noneIfAllCostAsMuch() {
    views("0ab");
    asks("0ab");
    due(0, x.weight(0, 1));
    due(1, x.size(0, 0, 9));
    due(0, x.which(0));
    due(1, x.size(0, 0, 8));
    due(1, x.which(0));
  }

  @Says("HOURS: a VIEW can be brought to hours from FROM to TO (0 .. 99") void terms_hours() {
    views("0ab");
    no(-4, x.hours(0, -1, 0));
    due(1, x.hours(0, 0, 99));
    no(-6, x.hours(0, 0, 100));
    no(-6, x.hours(0, 100, 100));
  }

  @Says("0 and 0 at first)") void terms_hours_0And0AtFirst() {
    views("0ab:ab", "1ab:ab");
    asks("0ab", "0ab,1bc");
    due(0, x.latest(0));
    due(1, x.hours(1, 1, 99));
    due(-9, x.latest(1));
    due(1, x.hours(1, 0, 99));
    due(0, x.latest(1));
  }

  private static final String LATEST =
      "LATEST of an ASK: the latest hour to which all VIEWS of some COVER can be brought (of the empty one 99)";

  @Says(LATEST) void terms_latest_ofSomeCoverNotTheLeast() {
    views("0ab,1bc", "0ab:ab", "1ab:ab");
    asks("0ab,1bc");
    due(1, x.hours(0, 0, 5));
    due(1, x.hours(1, 0, 7));
    due(1, x.hours(2, 6, 9));
    due(7, x.latest(0));
    due(1, x.hours(2, 8, 9));
    due(5, x.latest(0));
  }

  @Says(LATEST) void terms_latest_ofTheEmptyOne99() {
    asks("000,001");
    due(-9, x.latest(0));
    keys(0);
    due(99, x.latest(0));
    views("0ab");
    due(99, x.latest(0));
  }

  @Says("-9 none") void terms_latest_minus9() {
    views("1ab");
    asks("0ab");
    due(1, x.hours(0, 0, 99));
    due(-9, x.latest(0));
  }

  private static final String GIVEN = "GIVEN: a VIEW (with a HEAD) may be one that answers only if its first TERM is "
      + "known (a VALUE, or a NAME in a SHOW asked ahead)";

  @Says(GIVEN) void terms_given_aValueIsKnown() {
    views("0ab:a");
    asks("01b", "0ab", "00b");
    due(1, x.given(0, true));
    due(1, x.plan(0));
    due(-9, x.plan(1));
    due(1, x.plan(2));
  }

  @Says(GIVEN) void terms_given_theFirstTermAlone() {
    views("0ab:ab", "0ab:ba");
    asks("0a1:a");
    due(1, x.given(0, true));
    due(2, x.plan(0));
    due(1, x.given(1, true));
    due(2, x.plan(0));
    due(1, x.given(0, false));
    due(1, x.plan(0));
  }

  @Says(GIVEN) void terms_given_aNameInAnyPlaceOfAShowAskedAhead() {
    for (String head : new String[] {"abc", "bca", "cab"}) {
      anew();
      views("1ab:ab", "0ab,0bc:" + head);
      asks("0ab,0bc,1ad", "0ab,0bc,1bd", "0ab,0bc,1cd");
      due(1, x.given(0, true));
      for (int ask = 0; ask < 3; ask++) {
        due(2 + 13, x.plan(ask));
      }
    }
  }

  @Says(GIVEN) void terms_given_aNameOfTheFirstOfTwoShowsAskedAhead() {
    views("0ab:ab", "1ab:b", "2ab:ab");
    asks("0ab,1dc,2ae:bce");
    due(1, x.given(2, true));
    due(1 + 2 * 13 + 3 * 169, x.plan(0));
  }

  @Says(GIVEN) void terms_given_aValueIsKnownOnceOthersWereAskedToo() {
    views("0ab:ab", "1ab:b", "2ab:ab");
    asks("0ab,1dc,21e:bce", "0ab,1dc,20e:bce");
    due(1, x.given(2, true));
    due(1 + 2 * 13 + 3 * 169, x.plan(0));
    due(1 + 2 * 13 + 3 * 169, x.plan(1));
  }

  @Says(GIVEN) void terms_given_aNameNotInAShowAskedAhead() {
    views("0ab:b", "1ab:ab");
    asks("0ab,1ac:b", "0ab,1bc:b");
    due(1, x.given(1, true));
    due(-9, x.plan(0));
    due(1 + 2 * 13, x.plan(1));
  }

  @Says(GIVEN) void terms_given_aShowDoesNotGiveItself() {
    views("0ab:ab");
    asks("0ab", "0aa");
    due(1, x.given(0, true));
    due(-9, x.plan(0));
    due(-9, x.plan(1));
  }

  @Says(GIVEN) void terms_given_aNameOfASetThatIsNotOfTheCover() {
    views("0ab:ab", "1ab:a");
    asks("0ab", "0ab,1ac");
    due(1, x.given(0, true));
    due(-9, x.plan(0));
    due(2 + 13, x.plan(1));
  }

  private static final String PLAN = "PLAN: of COVERS that have an order in which each can be asked the one with the "
      + "fewest SHOWS, then the least as bits";

  @Says(PLAN) void terms_plan_theFewestShows() {
    views("0ab:ab", "1ab:ab", "0ab,1bc:ac");
    asks("0ab,1bc:ac");
    due(3, x.plan(0));
    due(1, x.given(2, true));
    due(1 + 2 * 13, x.plan(0));
  }

  @Says(PLAN) void terms_plan_thenTheLeastAsBits() {
    views("0ab:ab", "0ab:ba", "0ab:a");
    asks("0ab:a");
    due(1, x.plan(0));
    due(1, x.given(0, true));
    due(2, x.plan(0));
    due(1, x.given(1, true));
    due(3, x.plan(0));
  }

  @Says(PLAN) void terms_plan_moreShowsThanTheLeastCover() {
    views("1ab:a", "0ab:ab");
    asks("0ab,1ac:ab", "0ab:ab");
    due(1, x.given(1, true));
    due(1 + 2 * 13, x.plan(0));
    due(-9, x.plan(1));
  }

  private static final String ORDER = "its order: of those that can be asked the least SHOW next";

  @Says(ORDER) void terms_plan_theLeastNext() {
    views("0ab:ab", "1ab:ab", "2ab:ab");
    asks("0ab,1bc,2cd");
    due(1 + 2 * 13 + 3 * 169, x.plan(0));
  }

  @Says(ORDER) void terms_plan_theLeastThatCanBeAskedNext() {
    views("0ab:ba", "1ab:ba", "2ab:ab");
    asks("0ab,1bc,2cd");
    due(1, x.given(0, true));
    due(2 + 1 * 13 + 3 * 169, x.plan(0));
    due(1, x.given(1, true));
    due(3 + 2 * 13 + 1 * 169, x.plan(0));
    due(1, x.given(2, true));
    due(-9, x.plan(0));
  }

  // ==== V.

  private static final String CHANGES =
      "CHANGES: rows put in and taken out may be UNDONE, the latest first (40 at most are kept)";

  @Says(CHANGES) void terms_changes_theLatestFirst() {
    rows("000", "101");
    due(1, x.out(0, 0, 0));
    rows("211");
    int[][] want = {{0, 2, 0}, {1, 2, 0}, {1, 0, 0}, {0, 0, 0}};
    for (int[] rows : want) {
      due(1, x.undo());
      for (int table = 0; table < 3; table++) {
        due(rows[table], x.rows(table));
      }
    }
    no(-3, x.undo());
  }

  /** Makes CHANGES: 0, 0 of TABLE 2 comes in and goes. */
  private void change(int times) {
    for (int i = 0; i < times; i++) {
      due(1, i % 2 == 0 ? x.in(2, 0, 0) : x.out(2, 0, 0));
    }
  }

  private void undo(int times) {
    for (int i = 0; i < times; i++) {
      due(1, x.undo());
    }
  }

  @Says(CHANGES) void terms_changes_fortyAreAllUndone() {
    change(40);
    due(40, x.count(7));
    undo(40);
    no(-3, x.undo());
    due(0, x.rows(2));
  }

  @Says(CHANGES) void terms_changes_ofFortyOneTheFirstIsForgotten() {
    rows("000");
    change(40);
    due(40, x.count(7));
    undo(40);
    due(0, x.count(7));
    no(-3, x.undo());
    due(1, x.rows(0));
    due(0, x.rows(2));
  }

  @Says(CHANGES) void terms_changes_thirtyNineAndOneMore() {
    rows("000");
    change(39);
    due(40, x.count(7));
    undo(40);
    due(0, x.rows(0));
    no(-3, x.undo());
  }

  @Says(CHANGES) void terms_changes_oneMoreAfterSomeWereUndone() {
    change(40);
    undo(1);
    due(39, x.count(7));
    rows("011");
    due(40, x.count(7));
    undo(40);
    due(0, x.rows(0) + x.rows(2));
    no(-3, x.undo());
  }

  @Says(CHANGES) void terms_changes_rowsReadPushTheOldestOut() {
    rows("000");
    change(38);
    put(1, 0, 0, 1, 0, 1, 1, 1, 0);
    due(3, x.read());
    due(40, x.count(7));
    undo(40);
    no(-3, x.undo());
    due(1, x.rows(0));
    due(0, x.rows(1));
    due(1, x.rows(2));
  }

  private static final String BOOK = "A BOOK of rows: bytes (TABLE, x, y at a time): READ all at once, as far as they "
      + "are as told: how many came in that were not there";

  @Says(BOOK) void terms_book_tableThenXThenY() {
    put(2, 1, 0, 1, 0, 1);
    due(2, x.read());
    due(4, x.rows(2));
    due(2, x.rows(1));
  }

  @Says(BOOK) void terms_book_asFarAsTheyAreAsTold() {
    put(0, 0, 0, 0, 0, 2, 0, 1, 1);
    due(1, x.read());
    due(1, x.rows(0));
    due(0, x.count(6));
  }

  private static final String IMAGE = "THE IMAGE: all that there is, but it, the TEXT, the BOOK, REFUSALS";

  @Says(IMAGE) void terms_image_tablesAndKeys() {
    rows("000", "211");
    keys(0);
    due(0, x.image());
    due(1, x.out(0, 0, 0));
    due(1, x.key(0, false));
    keys(1);
    rows("000", "001", "100");
    due(0, x.restore());
    due(1, x.rows(0));
    due(0, x.rows(1));
    due(8, x.rows(2));
    due(1, x.count(3));
    no(-3, x.in(0, 0, 1));
  }

  @Says(IMAGE) void terms_image_asksAndViews() {
    asks("0ab:a");
    views("0ab:b");
    due(1, x.image());
    asks("1ab:ab");
    views("1ab");
    due(1, x.restore());
    due(1, x.count(0));
    due(1, x.count(1));
    asks("2ee:ee");
    views("2ee");
    due(266, x.end(1, 0));
    due(2, x.steps(1, 3));
    due(23, x.end(0, 0));
    showsAre(0, 4);
    showsAre(1, 1000);
  }

  @Says(IMAGE) void terms_image_whatWasSeenOfAnAskIsAsItWasThen() {
    views("0ab:ab");
    asks("0ab,0ac");
    due(1, x.image());
    keys(0);
    views("0ab:a");
    due(1, x.steps(0, 0));
    showsAre(0, 43, 1003);
    coverIs(0, 1, 1, 2);
    due(1, x.restore());
    due(0, x.steps(0, 0));
    showsAre(0, 43, 53);
    coverIs(0, 1, 1, 2);
    due(1, x.plan(0));
  }

  @Says(IMAGE) void terms_image_keptAnswers() {
    views("0ab:ab", "1ab");
    rows("001");
    due(4, x.keep(0, true));
    due(2, x.image());
    rows("010");
    due(6, x.keep(0, true));
    due(0, x.keep(1, true));
    due(2, x.restore());
    asks("0ab:ab");
    due(1, x.count(4));
    due(4, x.sure(0, 0));
    due(256, x.worlds());
  }

  @Says(IMAGE) void terms_image_theWeek() {
    views("0ab");
    asks("0ab", "1ab");
    due(0, x.weight(0, 5));
    due(1, x.size(0, 6, 7));
    due(99, x.set(0, 8));
    due(10, x.set(1, 9));
    due(1, x.image());
    due(5, x.weight(0, 1));
    due(0, x.weight(1, 1));
    due(1, x.size(0, 99, 99));
    due(8, x.set(0, 1));
    due(9, x.set(1, 1));
    due(1, x.restore());
    due(45, x.cost(0));
    due(12, x.cost(1));
    due(1, x.which(0));
    due(8, x.set(0, 5));
    due(0, x.which(0));
    due(9, x.set(1, 9));
    due(0, x.weight(1, 0));
  }

  @Says(IMAGE) void terms_image_hoursAndGiven() {
    views("0ab:a");
    asks("0ab");
    due(1, x.hours(0, 5, 6));
    due(1, x.given(0, true));
    due(1, x.image());
    due(1, x.hours(0, 7, 8));
    due(1, x.given(0, false));
    due(1, x.restore());
    due(6, x.latest(0));
    due(-9, x.plan(0));
    due(0, x.given(0, true));
  }

  @Says(IMAGE) void terms_image_notTheText() {
    Due.feed(x, "0a");
    due(0, x.image());
    Due.feed(x, "b");
    due(0, x.restore());
    due(3, x.count(5));
    due(0, x.ask());
    due(0, x.restore());
    due(0, x.count(5));
    due(-20, x.ask());
  }

  @Says(IMAGE) void terms_image_notTheBook() {
    put(0, 0);
    due(0, x.image());
    put(1);
    due(0, x.restore());
    due(3, x.count(6));
    due(1, x.read());
    due(0, x.restore());
    due(0, x.count(6));
    due(0, x.read());
  }

  @Says(IMAGE) void terms_image_notRefusals() {
    no(-1, x.rows(3));
    no(-2, x.set(2, 0));
    no(-3, x.restore());
    no(-4, x.put(-129));
    due(0, x.image());
    no(-6, x.put(128));
    no(-1, x.rows(3));
    due(0, x.restore());
    due(2, x.count(11));
    due(1, x.count(13));
    due(1, x.count(16));
  }

  @Says(IMAGE) void terms_image_notItself() {
    rows("000");
    due(0, x.image());
    rows("011");
    due(0, x.restore());
    due(0, x.restore());
    due(1, x.rows(0));
  }

  @Says("as it is RESTORED nothing may be UNDONE") void terms_image_asRestoredNothingMayBeUndone() {
    rows("000", "011");
    due(0, x.image());
    due(2, x.count(7));
    due(1, x.undo());
    due(0, x.restore());
    due(0, x.count(7));
    no(-3, x.undo());
    rows("010");
    due(1, x.count(7));
    due(1, x.undo());
    due(9, x.rows(0));
  }

  @Says("as it is RESTORED nothing may be UNDONE") void terms_image_aFullListOfChangesIsGone() {
    due(0, x.image());
    change(41);
    due(0, x.restore());
    due(0, x.count(7));
    no(-3, x.undo());
  }

  // ==== Said once more

  @Says("Said once more: STEPS of an ASK (what 0) are how often one TERM went for another")
  void terms_again_stepsAreHowOften() {
    asks("0ab,0ab", "0ab,0ac", "0ab,0ac,0ad", "0ab,0ac,0ad,0ae", "0ab,0ac,1bd,1ce");
    keys(0);
    for (int ask = 0; ask < 4; ask++) {
      due(ask, x.steps(ask, 0));
    }
    due(1, x.steps(4, 0));
    keys(1);
    due(2, x.steps(4, 0));
  }

  private static final String AS_IT_ENDED =
      "what ends as NOTHING is none of these, and ROWS, HEAD are then as it ended";

  @Says(AS_IT_ENDED) void terms_again_whatEndsAsNothingIsNoStep() {
    asks("000,001", "0ab,0a0,0a1:b", "0ab,0ac,0b0,0c1:abc");
    keys(0);
    stepsAre(0, 0, 1, 2, 0);
    stepsAre(1, 1, 1, 2, 1);
    stepsAre(2, 1, 1, 3, 3);
  }

  @Says(AS_IT_ENDED) void terms_again_rowsThatWereLikeOneAheadAreGone() {
    asks("000,000,001,000");
    due(2, x.steps(0, 2));
    keys(0);
    stepsAre(0, 0, 1, 2, 0);
  }

  @Says("ROWS stay in their order") void terms_again_rowsStayInTheirOrder() {
    asks("2de,0ac,1ab,0ab");
    endIs(0, 256, 24, 123, 23);
    keys(0);
    endIs(0, 256, 23, 123);
  }

  @Says("The later NAME goes, the earlier one stands") void terms_again_theEarlierNameStands() {
    asks("0ae,0ab,1ee,2be", "0cd,0ca,1dd");
    keys(0);
    endIs(0, 23, 133, 233);
    endIs(1, 42, 122);
  }

  private static final String AS_TOLD = "WITHIN, COVER: of q, of the ASK, ROWS as they are told";

  @Says(AS_TOLD) void terms_again_rowsOfQAsTold() {
    asks("000,001,2ab", "2ab,2cd", "0a0,0b1,1ab");
    keys(0);
    due(0, x.within(1, 0));
    due(1, x.within(0, 1));
    asks("0ab,1ab", "0ab,0ac,1ac");
    due(1, x.within(4, 3));
    due(1, x.within(3, 4));
    due(1, x.same(3, 4));
  }

  @Says(AS_TOLD) void terms_again_rowsOfTheAskAsToldInACover() {
    views("0ab,1bd:ad", "0ab,2bd:ad");
    asks("0ab,0ac,1bd,2ce:ade");
    due(1, x.covers(0, 3));
    keys(0);
    due(1, x.covers(0, 3));
    coverIs(0, 2, 3, 1);
  }

  @Says("VIEWS, too") void terms_again_rowsOfViewsAsTold() {
    views("0ab,0ac:abc", "000,001,1aa:a");
    asks("0ab,1cc", "0ab,0ac");
    showsAre(0, 443);
    keys(0);
    showsAre(0, 443);
    showsAre(1, 443);
    due(0, x.answer(1, true));
  }

  private static final String ONE_SHOW =
      "a VIEW without HEAD has one SHOW at most, and a NAME twice in a HEAD has one TERM";

  @Says(ONE_SHOW) void terms_again_aViewWithoutHeadHasOneShowAtMost() {
    views("0ab", "0ab,0cd", "2ab");
    asks("0ab,0cd,0ee,0ba", "1ab");
    showsAre(0, 0, 1000);
    showsAre(1);
  }

  @Says(ONE_SHOW) void terms_again_aNameTwiceInAHeadHasOneTerm() {
    views("0ab:aa", "0ab:bab");
    asks("0ab,0cd");
    showsAre(0, 33, 55, 1434, 1656);
  }

  @Says("An OPENED picture lies within by its END") void terms_again_anOpenedPictureByItsEnd() {
    views("0ab,1bc:ac", "0ab,2bc:ac");
    asks("0ab,1bc,2bd:acd");
    due(0, x.covers(0, 3));
    keys(0);
    due(1, x.covers(0, 3));
    due(1, x.key(0, false));
    due(0, x.covers(0, 3));
  }

  @Says("of one that is NOTHING, too") void terms_again_whatNothingOpensLiesWithin() {
    views("0ab:ab");
    asks("000,001", "1ab");
    due(0, x.within(0, 1));
    keys(0);
    due(1, x.within(0, 1));
    due(0, x.shows(0));
    coverIs(0, 0, 0, 1);
  }

  private static final String NOTHINGS_COVER =
      "Of a NOTHING the empty set alone is a COVER, and its weight counts once";

  @Says(NOTHINGS_COVER) void terms_again_theEmptySetAlone() {
    views("0ab:ab");
    asks("000,001");
    due(1, x.covers(0, 3));
    due(0, x.covers(0, 0));
    keys(0);
    due(1, x.covers(0, 0));
    no(-1, x.covers(0, 3));
    coverIs(0, 0, 0, 1);
  }

  @Says(NOTHINGS_COVER) void terms_again_itsWeightCountsOnce() {
    asks("000,001");
    due(0, x.weight(0, 99));
    due(990, x.cost(0));
    keys(0);
    due(99, x.cost(0));
    due(10, x.set(1, 0));
    due(99, x.cost(0));
    due(0, x.which(0));
    due(99, x.which(1));
  }

  @Says("LATEST: an hour that is in all these spans") void terms_again_anHourInAllSpans() {
    views("0ab:ab", "1ab:ab", "2ab:ab");
    asks("0ab,1bc,2cd");
    due(1, x.hours(0, 10, 30));
    due(1, x.hours(1, 20, 40));
    due(1, x.hours(2, 0, 20));
    due(20, x.latest(0));
    due(1, x.hours(2, 0, 19));
    due(-9, x.latest(0));
    due(1, x.hours(2, 30, 30));
    due(30, x.latest(0));
    due(1, x.hours(2, 31, 31));
    due(-9, x.latest(0));
  }

  @Says("A row that was there makes no CHANGE") void terms_again_aRowThatWasThereIsNoChange() {
    rows("000");
    due(0, x.in(0, 0, 0));
    put(0, 0, 0);
    due(0, x.read());
    due(1, x.count(7));
    due(1, x.undo());
    due(0, x.rows(0));
  }

  @Says("rows READ are CHANGES one by one") void terms_again_rowsReadAreUndoneOneByOne() {
    put(0, 0, 0, 1, 1, 1, 2, 0, 1);
    due(3, x.read());
    due(3, x.count(7));
    due(1, x.undo());
    due(0, x.rows(2));
    due(8, x.rows(1));
    due(1, x.undo());
    due(0, x.rows(1));
    due(1, x.rows(0));
    due(1, x.undo());
    no(-3, x.undo());
  }

  @Says("one that cannot be UNDONE by a KEY stays") void terms_again_aChangeThatAKeyForbidsStays() {
    rows("000", "001");
    due(1, x.out(0, 0, 0));
    keys(0);
    for (int i = 0; i < 3; i++) {
      no(-3, x.undo());
      due(3, x.count(7));
      due(2, x.rows(0));
    }
    due(1, x.key(0, false));
    due(1, x.undo());
    due(3, x.rows(0));
  }

  @Says("KEPT again: what its answer is now") void terms_again_keptAgain() {
    views("0ab:a");
    asks("0ab:a");
    due(0, x.keep(0, true));
    rows("010");
    due(2, x.keep(0, true));
    due(1, x.count(4));
    due(2, x.sure(0, 0));
    due(2, x.sure(0, 1));
    due(1, x.out(0, 1, 0));
    due(-9, x.keep(0, false));
    due(0, x.keep(0, true));
    due(0, x.sure(0, 1));
  }

  @Says("COST: SPENT of any ASK, of weight 0, too") void terms_again_spentOfWeight0() {
    views("0ab:ab", "0ab:ba", "0cd:cd", "0ab");
    asks("0ab", "0ab,0bc,0cd,0de");
    due(0, x.weight(0, 1));
    no(-5, x.cost(0));
    no(-5, x.which(0));
    no(-5, x.which(1));
  }

  @Says("A fifth ROW's FAULT is the place behind its comma") void terms_again_behindTheCommaOfAFifthRow() {
    faultIs(16, "0ab,0ab,0ab,0ab,");
    faultIs(16, "0ab,0ab,0ab,0ab,,");
  }

  @Says("a HEAD of no NAMES is a FAULT at the end") void terms_again_aHeadOfNoNames() {
    faultIs(4, "0ab:");
    faultIs(8, "0ab,0ab:");
    faultIs(16, "0ab,0ab,0ab,0ab:");
  }

  // ==== REFUSALS

  private static final String ORDERED =
      "REFUSALS (the call answers the number, the first that fits in the order in which it tells them";

  @Says(ORDERED) void terms_refusals_theFirstThatFitsIsTheOneThatCounts() {
    views("0ab");
    no(-1, x.hours(1, -1, 100));
    no(-4, x.hours(0, 100, -1));
    no(-6, x.hours(0, 100, 0));
    no(-3, x.hours(0, 1, 0));
  }

  private static final String COUNTED =
      "nothing changes but how many there were): -1 NOBODY: no such TABLE, ASK, VIEW, SHOW";

  @Says(COUNTED) void terms_refusals_minus1OfEachKind() {
    views("0ab");
    asks("0ab");
    no(-1, x.rows(3));
    no(-1, x.shows(1));
    no(-1, x.keep(1, true));
    no(-1, x.show(0, 1));
    due(4, x.count(11));
  }

  @Says(COUNTED) void terms_refusals_nothingElseIsCounted() {
    asks("0ab");
    due(-9, x.end(0, 9));
    due(-9, x.cover(0, 0));
    due(-9, x.count(8));
    due(-20, x.ask());
    rows("000");
    due(0, x.in(0, 0, 0));
    for (int what = 11; what < 17; what++) {
      due(0, x.count(what));
    }
  }

  @Says("-2 OTHER: what") void terms_refusals_minus2() {
    asks("0ab");
    no(-2, x.steps(0, 4));
    no(-2, x.cover(0, 3));
    no(-2, x.sure(0, 2));
    no(-2, x.set(2, 0));
    no(-2, x.which(2));
    due(5, x.count(12));
  }

  @Says("-3 STATE: it is not as told") void terms_refusals_minus3() {
    views("0ab");
    asks("000,001");
    no(-3, x.undo());
    no(-3, x.restore());
    no(-3, x.given(0, true));
    no(-3, x.hours(0, 2, 1));
    rows("000", "001");
    no(-3, x.key(0, true));
    due(1, x.undo());
    keys(0);
    no(-3, x.in(0, 0, 1));
    no(-3, x.end(0, 0));
    due(7, x.count(13));
  }

  @Says("-4 BELOW: a number below the least") void terms_refusals_minus4() {
    views("0ab");
    asks("0ab");
    no(-4, x.in(0, -1, 0));
    no(-4, x.out(0, 0, -1));
    no(-4, x.put(-129));
    no(-4, x.feed(0, 0L));
    no(-4, x.weight(0, -1));
    no(-4, x.size(0, -1, 0));
    no(-4, x.set(0, -1));
    no(-4, x.hours(0, -1, 0));
    due(8, x.count(14));
  }

  @Says("-5 SPENT") void terms_refusals_minus5() {
    views("0ab:ab", "0ab:ba", "0cd:cd", "0ab");
    asks("0ab,0bc,0cd,0de");
    no(-5, x.shows(0));
    no(-5, x.show(0, 0));
    no(-5, x.cover(0, 0));
    no(-5, x.covers(0, 1));
    no(-5, x.may(0, 1));
    no(-5, x.cost(0));
    no(-5, x.which(0));
    no(-5, x.latest(0));
    no(-5, x.plan(0));
    due(9, x.count(15));
  }

  @Says("-6 ROOM: a number above the greatest, no room") void terms_refusals_minus6() {
    views("0ab", "000", "001", "010");
    asks("0ab,000,001,010");
    no(-6, x.in(0, 2, 0));
    no(-6, x.out(0, 0, 2));
    no(-6, x.put(128));
    no(-6, x.feed(9, 0L));
    no(-6, x.covers(0, 15));
    no(-6, x.weight(0, 100));
    no(-6, x.size(0, 100, 0));
    no(-6, x.set(0, 1000));
    no(-6, x.hours(0, 0, 100));
    due(9, x.count(16));
  }
}
