/** Boundary cases of promises 17 to 21: SHOWS, COVERS, the LEAST of them, MAY. */
final class EdgesOfShowsTest extends Edges {
  private static final String SHOW =
      "SHOW i: 1000 VIEW, and TERMS (as of end()) as digits, the first the lowest, each and 1";
  private static final String COVER =
      "LEAST COVER: how many SHOWS (what 0), bits (1), how many COVERS have as few (2)";
  private static final String COVERS = "Whether a set of SHOWS (bits) is a COVER: 1, 0";

  public static void main(String[] args) throws Exception {
    run(EdgesOfShowsTest.class, args);
  }

  /** ASK 0 has 12 SHOWS, none of them a COVER with others; ASK 1 has three. */
  private void twelve() {
    views("0ab:ab", "0ab:ba", "0cd:cd");
    asks("0ab,0bc,0cd,0de", "0ab");
  }

  /** ASK 0 has 13 SHOWS, ASK 1 has four. */
  private void thirteen() {
    twelve();
    views("0ab");
  }

  private void nothing() {
    views("0ab:ab", "0ab");
    asks("000,001");
    keys(0);
  }

  private void tenAsks() {
    views("0ab:ab");
    asks("000", "001", "010", "011", "0aa", "0ab", "1ab", "1aa", "1a1", "0a1");
  }

  private void coverIs(int ask, int many, int bits, int asFew) {
    due(many, x.cover(ask, 0));
    due(bits, x.cover(ask, 1));
    due(asFew, x.cover(ask, 2));
  }

  // ---- Promise 17

  private static final String SHOWS = "How many SHOWS an ASK has";

  @Says(SHOWS) void promise17_shows_0WithoutAView() {
    asks("0ab");
    due(0, x.shows(0));
  }

  @Says(SHOWS) void promise17_shows_0NoViewFits() {
    views("1ab:ab", "0aa", "0a0:a");
    asks("0ab");
    due(0, x.shows(0));
  }

  @Says(SHOWS) void promise17_shows_12AreTheMost() {
    twelve();
    due(12, x.shows(0));
  }

  @Says(SHOWS) void promise17_shows_12ThatComeOftenAreNoMore() {
    views("0ab,0bc,0cd:ad", "0ab,0ba,0bb:ab", "0ab:ab");
    asks("0aa,0ab,0ba,0bb");
    due(12, x.shows(0));
  }

  @Says(SHOWS) void promise17_shows_0OfNothing() {
    nothing();
    due(0, x.shows(0));
    due(1, x.key(0, false));
    due(3, x.shows(0));
  }

  @Says("-1") void promise17_shows_minus1AskBelow() {
    tenAsks();
    no(-1, x.shows(-1));
    no(-1, x.shows(LEAST));
  }

  @Says("-1") void promise17_shows_minus1AskAbove() {
    no(-1, x.shows(0));
    tenAsks();
    due(1, x.shows(9));
    no(-1, x.shows(10));
    no(-1, x.shows(MOST));
  }

  @Says("-5") void promise17_shows_minus5Thirteen() {
    thirteen();
    no(-5, x.shows(0));
    due(4, x.shows(1));
  }

  @Says("-5") void promise17_shows_minus5SixteenOfOneView() {
    views("0ab,0cd:ac");
    asks("0a0,0b0,0c0,0d0");
    no(-5, x.shows(0));
  }

  @Says("-5") void promise17_shows_nothingIsNeverSpent() {
    views("0ab:ab", "0ab:ba", "0aa:a", "0ab:a", "0ab:b", "0ab");
    asks("000,001,0ab,0bc");
    no(-5, x.shows(0));
    keys(0);
    due(0, x.shows(0));
    due(1, x.key(0, false));
    no(-5, x.shows(0));
  }

  // ---- Promise 18

  @Says(SHOW) void promise18_show_theLeast() {
    views("000");
    asks("000");
    due(1, x.shows(0));
    due(0, x.show(0, 0));
  }

  @Says(SHOW) void promise18_show_theGreatest() {
    views("000", "001", "010", "011", "0aa", "1ab:bbb");
    asks("1ae");
    due(1, x.shows(0));
    due(5777, x.show(0, 0));
  }

  @Says(SHOW) void promise18_show_ofOneTwoAndThreeTerms() {
    views("2ab", "2ab:a", "2ab:ab", "2ab:bab");
    asks("20e");
    int[] want = {0, 1001, 2071, 3717};
    for (int i = 0; i < want.length; i++) {
      due(want[i], x.show(0, i));
    }
  }

  @Says(SHOW) void promise18_show_theFirstAndTheLastOfTwelve() {
    twelve();
    due(43, x.show(0, 0));
    due(2076, x.show(0, 11));
  }

  @Says("-1") void promise18_show_minus1AskBelow() {
    tenAsks();
    no(-1, x.show(-1, 0));
    no(-1, x.show(LEAST, 0));
  }

  @Says("-1") void promise18_show_minus1AskAbove() {
    no(-1, x.show(0, 0));
    tenAsks();
    due(23, x.show(9, 0));
    no(-1, x.show(10, 0));
    no(-1, x.show(MOST, 0));
  }

  @Says("-5") void promise18_show_minus5() {
    thirteen();
    no(-5, x.show(0, 0));
    no(-5, x.show(0, 11));
  }

  @Says("-1 SHOW") void promise18_show_minus1ShowBelow() {
    twelve();
    no(-1, x.show(0, -1));
    no(-1, x.show(0, LEAST));
  }

  @Says("-1 SHOW") void promise18_show_minus1ShowAbove() {
    twelve();
    no(-1, x.show(0, 12));
    no(-1, x.show(0, MOST));
    no(-1, x.show(1, 3));
  }

  @Says("-1 SHOW") void promise18_show_minus1OfNothing() {
    nothing();
    no(-1, x.show(0, 0));
  }

  @Says("-1; -5; -1 SHOW") void promise18_show_minus5AheadOfShowsThatAreNone() {
    thirteen();
    no(-5, x.show(0, -1));
    no(-5, x.show(0, 12));
    no(-5, x.show(0, 13));
    no(-1, x.show(2, 13));
  }

  // ---- Promise 19

  @Says(COVER) void promise19_cover_ofOneShow() {
    views("0ab:ab");
    asks("0ab:ab");
    coverIs(0, 1, 1, 1);
  }

  @Says(COVER) void promise19_cover_ofThreeShowsTheMost() {
    views("0ab:ab", "1ab:ab", "2ab:ab");
    asks("0ab,1bc,2cd:ad");
    coverIs(0, 3, 7, 1);
  }

  /** ASK 0 has 12 SHOWS, and the last three are its one COVER. */
  private void lastThree() {
    views("0ab,0cd:bd", "0ab,0cd:db", "0ab:a", "0ab,1bc:ab", "1ab:ab", "2ab:ab");
    asks("0ab,1bc,2cd,0ae:ad");
    due(12, x.shows(0));
  }

  @Says(COVER) void promise19_cover_theLastThreeOfTwelve() {
    lastThree();
    coverIs(0, 3, 7 << 9, 1);
  }

  @Says(COVER) void promise19_cover_ofNothing() {
    nothing();
    coverIs(0, 0, 0, 1);
  }

  @Says("-9 none") void promise19_cover_minus9WithoutAShow() {
    asks("0ab");
    coverIs(0, -9, -9, -9);
  }

  @Says("-9 none") void promise19_cover_minus9FourShowsAreTooMany() {
    views("0ab:ab");
    asks("0ab,0bc,0cd,0da");
    due(4, x.shows(0));
    coverIs(0, -9, -9, -9);
  }

  @Says("-1") void promise19_cover_minus1AskBelow() {
    tenAsks();
    no(-1, x.cover(-1, 0));
    no(-1, x.cover(LEAST, 2));
  }

  @Says("-1") void promise19_cover_minus1AskAbove() {
    no(-1, x.cover(0, 0));
    tenAsks();
    due(1, x.cover(9, 0));
    no(-1, x.cover(10, 0));
    no(-1, x.cover(MOST, 2));
  }

  @Says("-2") void promise19_cover_minus2WhatBelow() {
    tenAsks();
    no(-2, x.cover(0, -1));
    no(-2, x.cover(0, LEAST));
  }

  @Says("-2") void promise19_cover_minus2WhatAbove() {
    tenAsks();
    no(-2, x.cover(0, 3));
    no(-2, x.cover(0, MOST));
  }

  @Says("-5") void promise19_cover_minus5() {
    thirteen();
    for (int what = 0; what < 3; what++) {
      no(-5, x.cover(0, what));
    }
    coverIs(1, 1, 1, 4);
  }

  @Says("-9 none; -1; -2; -5") void promise19_cover_theFirstRefusalThatFits() {
    thirteen();
    no(-1, x.cover(2, 3));
    no(-1, x.cover(-1, -1));
    no(-2, x.cover(0, 3));
    no(-2, x.cover(0, -1));
    ask("1ab");
    no(-2, x.cover(2, 3));
    due(-9, x.cover(2, 2));
  }

  // ---- Promise 20

  @Says(COVERS) void promise20_covers_0TheEmptySet() {
    views("0ab:ab");
    asks("0ab", "1ab");
    due(0, x.covers(0, 0));
    due(0, x.covers(1, 0));
    due(1, x.covers(0, 1));
  }

  @Says(COVERS) void promise20_covers_1TheEmptySetOfNothing() {
    nothing();
    due(1, x.covers(0, 0));
  }

  @Says(COVERS) void promise20_covers_setsOfOneTwoAndThreeShows() {
    views("0ab", "0ab:a", "0ab:b", "0ab:ab");
    asks("0ab:a");
    int[] want = {0, 0, 1, 1, 0, 0, 1, 1, 1, 1, 1, 1, 1, 1, 1};
    for (int set = 0; set < want.length; set++) {
      due(want[set], x.covers(0, set));
    }
  }

  @Says(COVERS) void promise20_covers_theLastShowsOfTwelve() {
    lastThree();
    due(1, x.covers(0, 7 << 9));
    due(0, x.covers(0, 3 << 9));
    due(0, x.covers(0, 3 << 10));
    due(0, x.covers(0, 1 << 11));
    due(0, x.covers(0, 1 << 11 | 3));
  }

  @Says(COVERS) void promise20_covers_allSetsOfEightShows() {
    views("0ab:ab", "1ab:ab", "2ab,2cd:bd", "2ab:ab");
    asks("0ab,1bc,2cd,2ce:ad");
    due(8, x.shows(0));
    for (int set = 0; set < 256; set++) {
      if (Integer.bitCount(set) > 3) {
        no(-6, x.covers(0, set));
      } else {
        due(set == 67 ? 1 : 0, x.covers(0, set));
      }
    }
  }

  @Says("-1") void promise20_covers_minus1AskBelow() {
    tenAsks();
    no(-1, x.covers(-1, 0));
    no(-1, x.covers(LEAST, 1));
  }

  @Says("-1") void promise20_covers_minus1AskAbove() {
    no(-1, x.covers(0, 0));
    tenAsks();
    due(1, x.covers(9, 1));
    no(-1, x.covers(10, 1));
    no(-1, x.covers(MOST, 1));
  }

  @Says("-5") void promise20_covers_minus5() {
    thirteen();
    no(-5, x.covers(0, 0));
    no(-5, x.covers(0, 1));
  }

  @Says("-1 SHOWS that there are not") void promise20_covers_minus1OneShowTooFar() {
    twelve();
    no(-1, x.covers(0, 1 << 12));
    no(-1, x.covers(0, 1 << 12 | 1));
    no(-1, x.covers(1, 1 << 3));
  }

  @Says("-1 SHOWS that there are not") void promise20_covers_minus1FarSets() {
    twelve();
    no(-1, x.covers(0, -1));
    no(-1, x.covers(0, LEAST));
    no(-1, x.covers(0, LEAST | 1));
    no(-1, x.covers(0, MOST));
    no(-1, x.covers(0, 1 << 30));
  }

  @Says("-1 SHOWS that there are not") void promise20_covers_minus1OfAnAskWithoutShows() {
    asks("0ab");
    no(-1, x.covers(0, 1));
    due(0, x.covers(0, 0));
  }

  @Says("-1 SHOWS that there are not") void promise20_covers_minus1OfNothing() {
    nothing();
    no(-1, x.covers(0, 1));
  }

  @Says("-6 more than 3") void promise20_covers_minus6FourShows() {
    twelve();
    no(-6, x.covers(0, 15));
    no(-6, x.covers(0, 15 << 8));
    due(0, x.covers(0, 7));
  }

  @Says("-6 more than 3") void promise20_covers_minus6AllTwelve() {
    twelve();
    no(-6, x.covers(0, 4095));
  }

  @Says("-6 more than 3") void promise20_covers_minus6ThoughOneOfThemIsACover() {
    views("0ab", "0ab:a", "0ab:b", "0ab:ab");
    asks("0ab");
    due(1, x.covers(0, 7));
    no(-6, x.covers(0, 15));
  }

  @Says("-1; -5; -1 SHOWS that there are not; -6 more than 3")
  void promise20_covers_theFirstRefusalThatFits() {
    twelve();
    no(-1, x.covers(2, -1));
    no(-1, x.covers(0, 1 << 12 | 15));
    views("0ab");
    no(-5, x.covers(0, -1));
    no(-5, x.covers(0, 15));
    no(-5, x.covers(0, 1 << 13));
    no(-1, x.covers(2, 15));
  }

  // ---- Promise 21

  @Says("MAY: 1, 0") void promise21_may_0WithoutRights() {
    views("0ab:ab");
    asks("0ab");
    due(0, x.may(0, 0));
    due(1, x.may(0, 1));
  }

  @Says("MAY: 1, 0") void promise21_may_rightsToAllSixViews() {
    views("1ab", "1ab", "1ab", "1ab", "1ab", "0ab");
    asks("0ab", "2ab");
    due(1, x.may(0, 63));
    due(1, x.may(0, 32));
    due(0, x.may(0, 31));
    due(0, x.may(1, 63));
  }

  @Says("MAY: 1, 0") void promise21_may_moreRightsThanACoverWants() {
    views("0ab", "1ab", "0cd");
    asks("0ab");
    int[] want = {0, 1, 0, 1, 1, 1, 1, 1};
    for (int views = 0; views < want.length; views++) {
      due(want[views], x.may(0, views));
    }
  }

  @Says("MAY: 1, 0") void promise21_may_nothingWantsNoRights() {
    nothing();
    for (int views = 0; views < 4; views++) {
      due(1, x.may(0, views));
    }
  }

  @Says("MAY: 1, 0") void promise21_may_0AgainOnceAKeyIsNoMore() {
    nothing();
    due(1, x.may(0, 0));
    due(1, x.key(0, false));
    due(0, x.may(0, 0));
    due(1, x.may(0, 1));
  }

  @Says("-1 (VIEWS that there are not, too)") void promise21_may_minus1AskBelow() {
    tenAsks();
    no(-1, x.may(-1, 0));
    no(-1, x.may(LEAST, 1));
  }

  @Says("-1 (VIEWS that there are not, too)") void promise21_may_minus1AskAbove() {
    no(-1, x.may(0, 0));
    tenAsks();
    due(1, x.may(9, 1));
    no(-1, x.may(10, 1));
    no(-1, x.may(MOST, 1));
  }

  @Says("-1 (VIEWS that there are not, too)") void promise21_may_minus1OneViewTooFar() {
    tenAsks();
    no(-1, x.may(0, 2));
    no(-1, x.may(0, 3));
    views("0ab", "0ab", "0ab", "0ab", "0ab");
    no(-1, x.may(0, 64));
  }

  @Says("-1 (VIEWS that there are not, too)") void promise21_may_minus1WithoutViews() {
    asks("0ab");
    no(-1, x.may(0, 1));
    due(0, x.may(0, 0));
  }

  @Says("-1 (VIEWS that there are not, too)") void promise21_may_minus1FarSets() {
    tenAsks();
    no(-1, x.may(0, -1));
    no(-1, x.may(0, LEAST));
    no(-1, x.may(0, MOST));
  }

  @Says("-5") void promise21_may_minus5() {
    thirteen();
    for (int views = 0; views < 16; views++) {
      no(-5, x.may(0, views));
    }
  }

  @Says("-1 (VIEWS that there are not, too); -5") void promise21_may_minus1AheadOfMinus5() {
    thirteen();
    no(-1, x.may(0, 16));
    no(-1, x.may(0, -1));
    no(-1, x.may(2, 16));
  }
}
