/** Boundary cases of promises 1 to 8: rows, changes taken back, KEYS, the BOOK. */
final class EdgesOfTablesTest extends Edges {
  private static final String[] ALL_OF_TABLE_2 = {"200", "201", "210", "211"};

  public static void main(String[] args) throws Exception {
    run(EdgesOfTablesTest.class, args);
  }

  private void bitsAre(int rows0, int rows1, int rows2) {
    due(rows0, x.rows(0));
    due(rows1, x.rows(1));
    due(rows2, x.rows(2));
  }

  // ---- Promise 1

  @Says("Empty TABLES") void promise1_newObject_everyTableIsEmpty() {
    bitsAre(0, 0, 0);
    due(0, x.count(2));
  }

  @Says("Empty TABLES") void promise1_newObject_nothingElseIsThereEither() {
    for (int what = 0; what <= 7; what++) {
      due(0, x.count(what));
    }
    for (int what = 11; what <= 16; what++) {
      due(0, x.count(what));
    }
  }

  @Says("Empty TABLES") void promise1_newObject_hasNoAskNoViewNoChangeNoImage() {
    no(-1, x.answer(0, false));
    no(-1, x.answer(0, true));
    no(-3, x.undo());
    no(-3, x.restore());
    due(0, x.read());
    due(-20, x.ask());
    due(-20, x.view());
  }

  @Says("Empty TABLES") void promise1_newObject_costsNothing() {
    due(4096, x.worlds());
    due(0, x.cost(0));
    due(0, x.which(0));
    due(0, x.which(1));
  }

  @Says("Empty TABLES") void promise1_newObject_isNotTouchedByAnotherOne() {
    KeptAnswers other = new KeptAnswers();
    other.in(0, 0, 0);
    other.key(0, true);
    other.put(1);
    other.rows(3);
    other.image();
    promise1_newObject_nothingElseIsThereEither();
    no(-3, x.restore());
  }

  // ---- Promise 2

  @Says("A row comes into a TABLE: 1") void promise2_in_eachOfAllTwelveRows() {
    for (int bit = 0; bit < 12; bit++) {
      due(1, x.in(bit / 4, bit / 2 % 2, bit % 2));
      due(bit + 1, x.count(2));
      int all = (2 << bit) - 1;
      bitsAre(all & 15, all >> 4 & 15, all >> 8);
    }
  }

  @Says("0 it was there") void promise2_in_0ItWasThere() {
    due(1, x.in(1, 0, 1));
    due(0, x.in(1, 0, 1));
    bitsAre(0, 2, 0);
  }

  @Says("0 it was there") void promise2_in_0EachRowOfAFullTable() {
    rows(ALL_OF_TABLE_2);
    for (int bit = 0; bit < 4; bit++) {
      due(0, x.in(2, bit / 2, bit % 2));
    }
    bitsAre(0, 0, 15);
    due(4, x.count(7));
  }

  @Says("0 it was there") void promise2_in_0ItWasThereWithAKey() {
    rows("011");
    keys(0);
    due(0, x.in(0, 1, 1));
  }

  @Says("-1") void promise2_in_minus1TableBelow() {
    no(-1, x.in(-1, 0, 0));
    no(-1, x.in(LEAST, 0, 0));
  }

  @Says("-1") void promise2_in_minus1TableAbove() {
    no(-1, x.in(3, 0, 0));
    no(-1, x.in(MOST, 0, 0));
  }

  @Says("-4") void promise2_in_minus4XBelow() {
    no(-4, x.in(0, -1, 0));
    no(-4, x.in(0, LEAST, 0));
  }

  @Says("-4") void promise2_in_minus4YBelow() {
    no(-4, x.in(2, 1, -1));
    no(-4, x.in(2, 1, LEAST));
  }

  @Says("-6 (x, y)") void promise2_in_minus6XAbove() {
    no(-6, x.in(0, 2, 0));
    no(-6, x.in(0, MOST, 1));
  }

  @Says("-6 (x, y)") void promise2_in_minus6YAbove() {
    no(-6, x.in(0, 0, 2));
    no(-6, x.in(2, 1, MOST));
  }

  @Says("-3 KEY") void promise2_in_minus3AnotherRowWithItsX() {
    for (int bit = 0; bit < 12; bit++) {
      anew();
      keys(0, 1, 2);
      due(1, x.in(bit / 4, bit / 2 % 2, bit % 2));
      no(-3, x.in(bit / 4, bit / 2 % 2, 1 - bit % 2));
      due(1, x.count(2));
      due(1, x.count(7));
    }
  }

  @Says("-3 KEY") void promise2_in_aKeyLetsOneRowOfEachXIn() {
    keys(0);
    due(1, x.in(0, 0, 1));
    due(1, x.in(0, 1, 1));
    no(-3, x.in(0, 0, 0));
    no(-3, x.in(0, 1, 0));
    bitsAre(10, 0, 0);
  }

  @Says("-3 KEY") void promise2_in_theKeyOfAnotherTableBindsNot() {
    keys(0, 2);
    rows("100", "101");
    bitsAre(0, 3, 0);
  }

  @Says("-3 KEY") void promise2_in_aKeyThatIsNoMoreBindsNot() {
    keys(0);
    rows("000");
    no(-3, x.in(0, 0, 1));
    due(1, x.key(0, false));
    due(1, x.in(0, 0, 1));
  }

  @Says("-1; -4; -6 (x, y); -3 KEY") void promise2_in_theFirstRefusalThatFits() {
    keys(0);
    rows("000");
    no(-1, x.in(3, -1, 2));
    no(-1, x.in(-1, 2, -1));
    no(-4, x.in(0, -1, 2));
    no(-4, x.in(0, 2, -1));
    no(-6, x.in(0, 0, 2));
    no(-4, x.in(0, 0, -1));
    no(-3, x.in(0, 0, 1));
    bitsAre(1, 0, 0);
  }

  // ---- Promise 3

  @Says("A row goes: 1") void promise3_out_eachRowOfFullTables() {
    for (int bit = 0; bit < 12; bit++) {
      due(1, x.in(bit / 4, bit / 2 % 2, bit % 2));
    }
    for (int bit = 0; bit < 12; bit++) {
      due(1, x.out(bit / 4, bit / 2 % 2, bit % 2));
      due(11 - bit, x.count(2));
      int left = 4095 & -(2 << bit);
      bitsAre(left & 15, left >> 4 & 15, left >> 8);
    }
  }

  @Says("A row goes: 1") void promise3_out_aKeyRefusesNone() {
    keys(0);
    rows("001");
    due(1, x.out(0, 0, 1));
    due(0, x.out(0, 0, 0));
  }

  @Says("0 it was not there") void promise3_out_0OfEmptyTables() {
    for (int bit = 0; bit < 12; bit++) {
      due(0, x.out(bit / 4, bit / 2 % 2, bit % 2));
    }
    due(0, x.count(7));
  }

  @Says("0 it was not there") void promise3_out_0TheSecondTime() {
    rows("111");
    due(1, x.out(1, 1, 1));
    due(0, x.out(1, 1, 1));
    due(2, x.count(7));
  }

  @Says("-1") void promise3_out_minus1TableBelow() {
    no(-1, x.out(-1, 0, 0));
    no(-1, x.out(LEAST, 0, 0));
  }

  @Says("-1") void promise3_out_minus1TableAbove() {
    no(-1, x.out(3, 0, 0));
    no(-1, x.out(MOST, 0, 0));
  }

  @Says("-4") void promise3_out_minus4XBelow() {
    no(-4, x.out(0, -1, 0));
    no(-4, x.out(0, LEAST, 0));
  }

  @Says("-4") void promise3_out_minus4YBelow() {
    no(-4, x.out(0, 0, -1));
    no(-4, x.out(0, 0, LEAST));
  }

  @Says("-6") void promise3_out_minus6XAbove() {
    no(-6, x.out(0, 2, 0));
    no(-6, x.out(0, MOST, 0));
  }

  @Says("-6") void promise3_out_minus6YAbove() {
    no(-6, x.out(0, 0, 2));
    no(-6, x.out(0, 0, MOST));
  }

  @Says("-1; -4; -6") void promise3_out_theFirstRefusalThatFits() {
    rows("000", "011");
    no(-1, x.out(3, -1, 2));
    no(-1, x.out(-1, 2, -1));
    no(-4, x.out(0, -1, 2));
    no(-4, x.out(0, 2, -1));
    bitsAre(9, 0, 0);
  }

  // ---- Promise 4

  @Says("The latest change of rows is UNDONE: 1") void promise4_undo_ofIn() {
    rows("101", "110");
    due(1, x.undo());
    bitsAre(0, 2, 0);
  }

  @Says("The latest change of rows is UNDONE: 1") void promise4_undo_ofOut() {
    rows("101", "110");
    due(1, x.out(1, 0, 1));
    due(1, x.undo());
    bitsAre(0, 6, 0);
  }

  @Says("The latest change of rows is UNDONE: 1") void promise4_undo_isNoChangeItself() {
    rows("000", "001");
    due(1, x.undo());
    due(1, x.count(7));
    due(1, x.undo());
    due(0, x.count(7));
    bitsAre(0, 0, 0);
  }

  @Says("-3 there is none, KEY") void promise4_undo_minus3OfANewObject() {
    no(-3, x.undo());
    bitsAre(0, 0, 0);
  }

  @Says("-3 there is none, KEY") void promise4_undo_minus3OnceAllAreUndone() {
    rows("000");
    due(1, x.undo());
    no(-3, x.undo());
    no(-3, x.undo());
  }

  @Says("-3 there is none, KEY") void promise4_undo_minus3AKeyForbidsIt() {
    rows("000", "001");
    due(1, x.out(0, 0, 0));
    keys(0);
    no(-3, x.undo());
    bitsAre(2, 0, 0);
  }

  @Says("-3 there is none, KEY") void promise4_undo_ofInIsForbiddenByNoKey() {
    keys(0);
    rows("000");
    due(1, x.undo());
    bitsAre(0, 0, 0);
  }

  @Says("-3 there is none, KEY") void promise4_undo_theKeyOfAnotherTableForbidsNot() {
    rows("000", "001");
    due(1, x.out(0, 0, 0));
    keys(1, 2);
    due(1, x.undo());
    bitsAre(3, 0, 0);
  }

  @Says("-3 there is none, KEY") void promise4_undo_aRowOfTheOtherXForbidsNot() {
    rows("000", "010");
    due(1, x.out(0, 0, 0));
    keys(0);
    due(1, x.undo());
    bitsAre(5, 0, 0);
  }

  // ---- Promise 5

  @Says("A KEY, or not: 1") void promise5_key_ofTheLeastAndTheGreatestTable() {
    due(1, x.key(0, true));
    due(1, x.key(2, true));
    due(2, x.count(3));
    due(1, x.key(0, false));
    due(1, x.key(2, false));
    due(0, x.count(3));
  }

  @Says("A KEY, or not: 1") void promise5_key_ofAllTables() {
    keys(0, 1, 2);
    due(3, x.count(3));
  }

  @Says("A KEY, or not: 1") void promise5_key_ofAnEmptyTableAndOfOneRowToEachX() {
    for (int y0 = 0; y0 < 2; y0++) {
      for (int y1 = 0; y1 < 2; y1++) {
        anew();
        due(1, x.in(1, 0, y0));
        due(1, x.in(1, 1, y1));
        due(1, x.key(1, true));
        due(1, x.key(0, true));
      }
    }
  }

  @Says("0 it was so") void promise5_key_0ItWasNone() {
    due(0, x.key(0, false));
    due(0, x.count(3));
  }

  @Says("0 it was so") void promise5_key_0ItWasOne() {
    keys(2);
    due(0, x.key(2, true));
    due(1, x.count(3));
  }

  @Says("0 it was so") void promise5_key_0NoneOfAFullTable() {
    rows(ALL_OF_TABLE_2);
    due(0, x.key(2, false));
  }

  @Says("-1") void promise5_key_minus1TableBelow() {
    no(-1, x.key(-1, true));
    no(-1, x.key(-1, false));
    no(-1, x.key(LEAST, true));
  }

  @Says("-1") void promise5_key_minus1TableAbove() {
    no(-1, x.key(3, true));
    no(-1, x.key(3, false));
    no(-1, x.key(MOST, false));
  }

  @Says("-3 rows break it") void promise5_key_minus3TwoRowsOfX0() {
    rows("000", "001");
    no(-3, x.key(0, true));
    due(0, x.count(3));
    due(1, x.key(1, true));
  }

  @Says("-3 rows break it") void promise5_key_minus3TwoRowsOfX1() {
    rows("210", "211");
    no(-3, x.key(2, true));
    due(0, x.count(3));
  }

  @Says("-3 rows break it") void promise5_key_minus3OfAFullTable() {
    rows(ALL_OF_TABLE_2);
    no(-3, x.key(2, true));
    due(1, x.key(1, true));
    due(1, x.key(0, true));
  }

  @Says("-3 rows break it") void promise5_key_rowsThatAreGoneBreakItNot() {
    rows(ALL_OF_TABLE_2);
    due(1, x.out(2, 0, 1));
    no(-3, x.key(2, true));
    due(1, x.out(2, 1, 0));
    due(1, x.key(2, true));
    bitsAre(0, 0, 9);
  }

  // ---- Promise 6

  @Says("Rows of a TABLE as bits (2 x and y)") void promise6_rows_eachRowAlone() {
    for (int bit = 0; bit < 12; bit++) {
      anew();
      due(1, x.in(bit / 4, bit / 2 % 2, bit % 2));
      due(1 << bit % 4, x.rows(bit / 4));
      due(0, x.rows((bit / 4 + 1) % 3));
      due(0, x.rows((bit / 4 + 2) % 3));
    }
  }

  @Says("Rows of a TABLE as bits (2 x and y)") void promise6_rows_ofAnEmptyAndAFullTable() {
    due(0, x.rows(2));
    rows(ALL_OF_TABLE_2);
    due(15, x.rows(2));
  }

  @Says("-1") void promise6_rows_minus1TableBelow() {
    no(-1, x.rows(-1));
    no(-1, x.rows(LEAST));
  }

  @Says("-1") void promise6_rows_minus1TableAbove() {
    no(-1, x.rows(3));
    no(-1, x.rows(MOST));
  }

  // ---- Promise 7

  @Says("A byte (-128 .. 127) more of the BOOK: how many") void promise7_put_theLeastAndTheGreatestByte() {
    due(1, x.put(-128));
    due(2, x.put(127));
    due(2, x.count(6));
  }

  @Says("A byte (-128 .. 127) more of the BOOK: how many") void promise7_put_theSixtiethByteIsTheLast() {
    for (int many = 1; many <= 60; many++) {
      due(many, x.put(0));
    }
    no(-6, x.put(0));
    due(60, x.count(6));
  }

  @Says("-4") void promise7_put_minus4() {
    no(-4, x.put(-129));
    no(-4, x.put(LEAST));
    due(0, x.count(6));
  }

  @Says("-6 (60, too)") void promise7_put_minus6AboveTheGreatestByte() {
    no(-6, x.put(128));
    no(-6, x.put(MOST));
    due(0, x.count(6));
  }

  @Says("-6 (60, too)") void promise7_put_minus6AFullBook() {
    put(new int[60]);
    no(-6, x.put(0));
    no(-6, x.put(-128));
    no(-6, x.put(128));
    due(60, x.count(6));
  }

  @Says("-4; -6 (60, too)") void promise7_put_minus4AheadOfAFullBook() {
    put(new int[60]);
    no(-4, x.put(-129));
  }

  @Says("-6 (60, too)") void promise7_put_aBookThatIsReadHasRoomAgain() {
    put(new int[60]);
    due(1, x.read());
    due(1, x.put(0));
  }

  // ---- Promise 8

  private static final String READ =
      "The BOOK, which has none then, is READ: how many rows came in that were not there";
  private static final String ENDS = "(It ends at the first that is no row, or breaks a KEY.)";

  @Says(READ) void promise8_read_0OfAnEmptyBook() {
    due(0, x.read());
    due(0, x.count(6));
    bitsAre(0, 0, 0);
  }

  @Says(READ) void promise8_read_ofAFullBook() {
    for (int i = 0; i < 20; i++) {
      int bit = Math.max(0, i - 8);
      put(bit / 4, bit / 2 % 2, bit % 2);
    }
    due(60, x.count(6));
    due(12, x.read());
    due(0, x.count(6));
    bitsAre(15, 15, 15);
    due(12, x.count(7));
  }

  @Says(READ) void promise8_read_theLastRowOfAFullBook() {
    put(new int[57]);
    put(2, 1, 1);
    due(2, x.read());
    bitsAre(1, 0, 8);
  }

  @Says(READ) void promise8_read_theBookHasNoneThen() {
    put(0, 0, 1, 9);
    due(1, x.read());
    due(0, x.count(6));
    due(0, x.read());
    put(0, 1);
    due(0, x.read());
    due(0, x.count(6));
    bitsAre(2, 0, 0);
  }

  @Says(READ) void promise8_read_0OfRowsThatWereThere() {
    rows("000", "211");
    put(2, 1, 1, 0, 0, 0);
    due(0, x.read());
    bitsAre(1, 0, 8);
    due(2, x.count(7));
  }

  @Says(READ) void promise8_read_aRowThatWasThereIsNoEnd() {
    rows("000");
    keys(0);
    put(0, 0, 0, 1, 0, 0, 1, 0, 0, 1, 0, 1);
    due(2, x.read());
    bitsAre(1, 3, 0);
  }

  private void endsAt(int table, int a, int b) {
    anew();
    put(1, 1, 0, table, a, b, 2, 0, 0);
    due(1, x.read());
    bitsAre(0, 4, 0);
    due(0, x.count(6));
    due(1, x.count(7));
  }

  @Says(ENDS) void promise8_read_endsAtATableBelow() {
    endsAt(-1, 0, 0);
    endsAt(-128, 0, 0);
  }

  @Says(ENDS) void promise8_read_endsAtATableAbove() {
    endsAt(3, 0, 0);
    endsAt(127, 0, 0);
  }

  @Says(ENDS) void promise8_read_endsAtAnXBelow() {
    endsAt(0, -1, 0);
    endsAt(2, -128, 1);
  }

  @Says(ENDS) void promise8_read_endsAtAnXAbove() {
    endsAt(0, 2, 0);
    endsAt(2, 127, 1);
  }

  @Says(ENDS) void promise8_read_endsAtAYBelow() {
    endsAt(0, 0, -1);
    endsAt(2, 1, -128);
  }

  @Says(ENDS) void promise8_read_endsAtAYAbove() {
    endsAt(0, 0, 2);
    endsAt(2, 1, 127);
  }

  @Says(ENDS) void promise8_read_endsAtARowThatLacksBytes() {
    put(0, 0, 0, 1, 0);
    due(1, x.read());
    bitsAre(1, 0, 0);
    put(1);
    due(0, x.read());
    put(1, 0);
    due(0, x.read());
    bitsAre(1, 0, 0);
  }

  @Says(ENDS) void promise8_read_endsAtWhatBreaksAKey() {
    keys(0);
    rows("010");
    put(0, 0, 0, 0, 1, 1, 1, 0, 0);
    due(1, x.read());
    bitsAre(5, 0, 0);
    due(0, x.count(6));
    due(2, x.count(7));
  }

  @Says(ENDS) void promise8_read_endsAtWhatBreaksAKeyWithARowThatWasRead() {
    keys(2);
    put(2, 0, 0, 2, 0, 1, 2, 1, 0);
    due(1, x.read());
    bitsAre(0, 0, 1);
  }

  @Says(ENDS) void promise8_read_anEndIsNoRefusal() {
    put(7, 7, 7);
    due(0, x.read());
    due(0, x.count(11));
    due(0, x.count(13));
    due(0, x.count(14));
    due(0, x.count(16));
  }
}
