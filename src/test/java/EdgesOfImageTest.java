/** Boundary cases of promises 35 to 37, and of how many calls an object is used for. */
final class EdgesOfImageTest extends Edges {
  private static final String COUNT = "0 ASKS, 1 VIEWS, 2 rows of all TABLES, 3 KEYS, 4 KEPT ones, 5 bytes of "
      + "the TEXT, 6 bytes of the BOOK, 7 changes that may be UNDONE, 11 .. 16 REFUSALS -1 .. -6";

  public static void main(String[] args) throws Exception {
    run(EdgesOfImageTest.class, args);
  }

  private void sixViews() {
    views("000", "001", "010", "011", "100", "101");
  }

  // ---- Promise 35

  private static final String IMAGE = "THE IMAGE is taken: how many VIEWS";

  @Says(IMAGE) void promise35_image_0OfANewObject() {
    due(0, x.image());
  }

  @Says(IMAGE) void promise35_image_everyNumberOfViewsUpTo6() {
    String[] texts = {"000", "001", "010", "011", "100", "101"};
    for (int many = 0; many < 6; many++) {
      due(many, x.image());
      views(texts[many]);
    }
    due(6, x.image());
    asks("000", "001");
    due(6, x.image());
  }

  @Says(IMAGE) void promise35_image_theOneBeforeIsNoMore() {
    rows("000");
    due(0, x.image());
    rows("111");
    due(0, x.image());
    due(1, x.out(1, 1, 1));
    due(0, x.restore());
    due(1, x.rows(0));
    due(8, x.rows(1));
  }

  @Says(IMAGE) void promise35_image_changesNothing() {
    rows("000", "001");
    due(1, x.out(0, 0, 0));
    due(0, x.image());
    due(3, x.count(7));
    due(1, x.undo());
    due(3, x.rows(0));
  }

  // ---- Promise 36

  private static final String RESTORED = "RESTORED: how many VIEWS";

  @Says(RESTORED) void promise36_restore_0OfANewObject() {
    due(0, x.image());
    due(0, x.restore());
  }

  @Says(RESTORED) void promise36_restore_everyNumberOfViewsUpTo6() {
    String[] texts = {"000", "001", "010", "011", "100", "101"};
    for (int many = 0; many < 6; many++) {
      due(many, x.image());
      views(texts[many]);
      due(many, x.restore());
      due(many, x.count(1));
      no(-1, x.answer(many, true));
      views(texts[many]);
    }
    due(6, x.image());
    due(6, x.restore());
  }

  @Says(RESTORED) void promise36_restore_fullListsOverEmptyOnes() {
    due(0, x.image());
    for (int i = 0; i < 10; i++) {
      ask("0a" + i % 2 + ":a");
      due(0, x.weight(i, 99));
    }
    sixViews();
    for (int i = 0; i < 6; i++) {
      due(0, x.keep(i, true));
      due(1, x.size(i, 99, 99));
      due(1, x.hours(i, 99, 99));
    }
    due(0, x.restore());
    for (int what = 0; what < 8; what++) {
      due(0, x.count(what));
    }
    no(-1, x.cost(1));
    due(0, x.cost(0));
    due(4096, x.worlds());
  }

  @Says(RESTORED) void promise36_restore_emptyListsOverFullOnes() {
    sixViews();
    for (int i = 0; i < 10; i++) {
      ask("0a" + i % 2 + ":a");
      due(0, x.weight(i, i));
    }
    due(6, x.image());
    due(6, x.restore());
    due(10, x.count(0));
    for (int i = 0; i < 10; i++) {
      due(i, x.weight(i, 0));
    }
  }

  @Says(RESTORED) void promise36_restore_moreThanOnce() {
    rows("000");
    due(0, x.image());
    for (int i = 0; i < 3; i++) {
      due(1, x.out(0, 0, 0));
      due(0, x.restore());
      due(1, x.rows(0));
    }
  }

  @Says("-3 there is none") void promise36_restore_minus3() {
    rows("000");
    no(-3, x.restore());
    due(1, x.rows(0));
    due(1, x.count(7));
    due(1, x.undo());
  }

  // ---- Promise 37

  @Says(COUNT) void promise37_count_allOfANewObject() {
    for (int what = 0; what < 8; what++) {
      due(0, x.count(what));
    }
    for (int what = 11; what < 17; what++) {
      due(0, x.count(what));
    }
  }

  @Says(COUNT) void promise37_count_0TheMostAsks() {
    for (int i = 0; i < 10; i++) {
      ask("000");
    }
    due(10, x.count(0));
    due(0, x.count(1));
  }

  @Says(COUNT) void promise37_count_1TheMostViews() {
    sixViews();
    due(6, x.count(1));
    due(0, x.count(0));
  }

  @Says(COUNT) void promise37_count_2TheMostRows() {
    for (int bit = 0; bit < 12; bit++) {
      due(1, x.in(bit / 4, bit / 2 % 2, bit % 2));
    }
    due(12, x.count(2));
  }

  @Says(COUNT) void promise37_count_3TheMostKeys() {
    keys(0, 1, 2);
    due(3, x.count(3));
  }

  @Says(COUNT) void promise37_count_4TheMostKeptOnes() {
    sixViews();
    for (int view = 0; view < 6; view++) {
      due(0, x.keep(view, true));
      due(0, x.keep(view, true));
    }
    due(6, x.count(4));
  }

  @Says(COUNT) void promise37_count_5TheMostBytesOfTheText() {
    due(8, x.feed(8, 0L));
    due(16, x.feed(8, 0L));
    due(24, x.feed(8, 0L));
    due(24, x.count(5));
    due(0, x.count(6));
  }

  @Says(COUNT) void promise37_count_6TheMostBytesOfTheBook() {
    put(new int[60]);
    due(60, x.count(6));
    due(0, x.count(5));
  }

  @Says(COUNT) void promise37_count_7TheMostChanges() {
    for (int i = 0; i < 20; i++) {
      rows("000");
      due(1, x.out(0, 0, 0));
      due(2 * i + 2, x.count(7));
    }
    rows("000");
    due(40, x.count(7));
  }

  @Says(COUNT) void promise37_count_7ThoughAKeyForbidsTheLatest() {
    rows("000", "001");
    due(1, x.out(0, 0, 0));
    keys(0);
    no(-3, x.undo());
    due(3, x.count(7));
  }

  @Says(COUNT) void promise37_count_11To16EachRefusal() {
    no(-1, x.rows(3));
    due(1, x.count(11));
    no(-2, x.set(2, 0));
    no(-2, x.set(2, 0));
    due(2, x.count(12));
    for (int i = 1; i <= 3; i++) {
      no(-3, x.undo());
      due(i, x.count(13));
    }
    no(-4, x.put(-129));
    due(1, x.count(14));
    no(-6, x.put(128));
    due(1, x.count(16));
    due(0, x.count(15));
    views("0ab:ab", "0ab:ba", "0cd:cd", "0ab");
    asks("0ab,0bc,0cd,0de");
    no(-5, x.shows(0));
    due(1, x.count(15));
  }

  @Says("-9 for another what") void promise37_count_minus9Below() {
    due(-9, x.count(-1));
    due(-9, x.count(LEAST));
  }

  @Says("-9 for another what") void promise37_count_minus9BetweenChangesAndRefusals() {
    due(-9, x.count(8));
    due(-9, x.count(9));
    due(-9, x.count(10));
  }

  @Says("-9 for another what") void promise37_count_minus9Above() {
    due(-9, x.count(17));
    due(-9, x.count(MOST));
  }

  @Says("-9 for another what") void promise37_count_minus9IsNoRefusal() {
    due(-9, x.count(8));
    for (int what = 11; what < 17; what++) {
      due(0, x.count(what));
    }
  }

  // ---- How many calls

  private static final String CALLS = "An object is used for at most 512 calls after it has been made";

  @Says(CALLS) void calls_511RefusalsAndTheLastCallTellsThem() {
    for (int i = 0; i < 511; i++) {
      x.rows(3);
    }
    due(511, x.count(11));
    x = new KeptAnswers();
  }

  @Says(CALLS) void calls_theLastOf512ChangesIsUndone() {
    for (int i = 0; i < 255; i++) {
      x.in(2, 1, 1);
      x.out(2, 1, 1);
    }
    due(1, x.undo());
    due(8, x.rows(2));
  }

  @Says(CALLS) void calls_512ChangesOfAKeyWithAllAsksLookedThroughAnew() {
    views("0ab:ab", "0ab:ba", "0ab:aab");
    for (int i = 0; i < 10; i++) {
      ask("0ab,0bc,0cd,0de:ae");
    }
    int calls = 60;
    for (; calls + 2 < 512; calls += 2) {
      x.key(0, calls / 2 % 2 != 0);
      due(0, x.cost(7));
    }
  }
}
