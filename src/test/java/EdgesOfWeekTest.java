/** Boundary cases of promises 26 to 34: a WEEK, HOURS, VIEWS that must be GIVEN something, PLANS. */
final class EdgesOfWeekTest extends Edges {
  private static final String[] TEN = {"0ab", "000", "001", "010", "011", "100", "101", "110", "111", "1ab"};

  public static void main(String[] args) throws Exception {
    run(EdgesOfWeekTest.class, args);
  }

  private void sixViews() {
    views("0ab:a", "0ab:a", "0ab:a", "0ab:a", "0ab:a", "1ab:a");
  }

  /** ASK 1 has 13 SHOWS. */
  private void thirteen() {
    views("0ab:ab", "0ab:ba", "0cd:cd", "0ab");
    asks("0ab", "0ab,0bc,0cd,0de");
  }

  // ---- Promise 26

  private static final String WEIGHT = "WEIGHT of an ASK: what it was";

  @Says(WEIGHT) void promise26_weight_theLeastAndTheGreatest() {
    asks("0ab");
    due(0, x.weight(0, 99));
    due(99, x.weight(0, 0));
    due(0, x.weight(0, 0));
  }

  @Says(WEIGHT) void promise26_weight_ofTheFirstAndTheLastAsk() {
    asks(TEN);
    due(0, x.weight(0, 1));
    due(0, x.weight(9, 2));
    due(1, x.weight(0, 3));
    due(2, x.weight(9, 3));
    due(0, x.weight(5, 3));
  }

  @Says("-1") void promise26_weight_minus1AskBelow() {
    asks("0ab");
    no(-1, x.weight(-1, 0));
    no(-1, x.weight(LEAST, 0));
  }

  @Says("-1") void promise26_weight_minus1AskAbove() {
    no(-1, x.weight(0, 0));
    asks(TEN);
    no(-1, x.weight(10, 0));
    no(-1, x.weight(MOST, 0));
  }

  @Says("-4") void promise26_weight_minus4() {
    asks("0ab");
    due(0, x.weight(0, 7));
    no(-4, x.weight(0, -1));
    no(-4, x.weight(0, LEAST));
    due(7, x.weight(0, 7));
  }

  @Says("-6") void promise26_weight_minus6() {
    asks("0ab");
    due(0, x.weight(0, 7));
    no(-6, x.weight(0, 100));
    no(-6, x.weight(0, MOST));
    due(7, x.weight(0, 7));
  }

  @Says("-1; -4; -6") void promise26_weight_minus1AheadOfMinus4AndMinus6() {
    asks("0ab");
    no(-1, x.weight(1, -1));
    no(-1, x.weight(1, 100));
    no(-1, x.weight(-1, -1));
  }

  // ---- Promise 27

  private static final String SIZE = "SIZE and MEND of a VIEW: 1";

  @Says(SIZE) void promise27_size_theLeastAndTheGreatest() {
    sixViews();
    due(1, x.size(0, 99, 99));
    due(99, x.cost(1));
    due(1, x.size(0, 0, 0));
    due(0, x.cost(1));
  }

  @Says(SIZE) void promise27_size_ofTheFirstAndTheLastView() {
    sixViews();
    due(1, x.size(0, 1, 2));
    due(1, x.size(5, 3, 4));
    due(2, x.cost(1));
    due(4, x.cost(32));
    due(6, x.cost(63));
  }

  @Says(SIZE) void promise27_size_ofSizeOneRoomDecides() {
    views("0ab");
    asks("0ab");
    due(0, x.weight(0, 1));
    due(1, x.size(0, 99, 0));
    due(1, x.which(0));
    due(99, x.set(0, 98));
    due(0, x.which(0));
    due(1, x.size(0, 98, 0));
    due(1, x.which(0));
  }

  @Says("-1") void promise27_size_minus1ViewBelow() {
    sixViews();
    no(-1, x.size(-1, 0, 0));
    no(-1, x.size(LEAST, 0, 0));
  }

  @Says("-1") void promise27_size_minus1ViewAbove() {
    no(-1, x.size(0, 0, 0));
    sixViews();
    no(-1, x.size(6, 0, 0));
    no(-1, x.size(MOST, 0, 0));
  }

  @Says("-4") void promise27_size_minus4SizeBelow() {
    sixViews();
    no(-4, x.size(0, -1, 9));
    no(-4, x.size(0, LEAST, 9));
    due(0, x.cost(1));
  }

  @Says("-4") void promise27_size_minus4MendBelow() {
    sixViews();
    no(-4, x.size(0, 9, -1));
    no(-4, x.size(0, 9, LEAST));
    due(0, x.cost(1));
  }

  @Says("-6") void promise27_size_minus6SizeAbove() {
    sixViews();
    no(-6, x.size(0, 100, 9));
    no(-6, x.size(0, MOST, 9));
    due(0, x.cost(1));
  }

  @Says("-6") void promise27_size_minus6MendAbove() {
    sixViews();
    no(-6, x.size(0, 9, 100));
    no(-6, x.size(0, 9, MOST));
    due(0, x.cost(1));
  }

  @Says("-1; -4; -6") void promise27_size_theFirstRefusalThatFits() {
    sixViews();
    no(-1, x.size(6, -1, 100));
    no(-1, x.size(-1, 100, -1));
    no(-4, x.size(0, -1, 100));
    no(-4, x.size(0, 100, -1));
    due(0, x.cost(1));
  }

  // ---- Promise 28

  private static final String SET = "ROOM (what 0), AWAY (1): what it was";

  @Says(SET) void promise28_set_theLeastAndTheGreatestRoom() {
    due(99, x.set(0, 999));
    due(999, x.set(0, 0));
    due(0, x.set(0, 0));
  }

  @Says(SET) void promise28_set_theLeastAndTheGreatestAway() {
    due(10, x.set(1, 99));
    due(99, x.set(1, 0));
    due(0, x.set(1, 0));
  }

  @Says(SET) void promise28_set_oneLeavesTheOther() {
    due(99, x.set(0, 1));
    due(10, x.set(1, 2));
    due(1, x.set(0, 1));
    due(2, x.set(1, 2));
  }

  @Says("-2") void promise28_set_minus2WhatBelow() {
    no(-2, x.set(-1, 0));
    no(-2, x.set(LEAST, 0));
  }

  @Says("-2") void promise28_set_minus2WhatAbove() {
    no(-2, x.set(2, 0));
    no(-2, x.set(MOST, 0));
  }

  @Says("-4") void promise28_set_minus4() {
    no(-4, x.set(0, -1));
    no(-4, x.set(1, -1));
    no(-4, x.set(0, LEAST));
    no(-4, x.set(1, LEAST));
    due(99, x.set(0, 99));
    due(10, x.set(1, 10));
  }

  @Says("-6") void promise28_set_minus6RoomAbove999() {
    no(-6, x.set(0, 1000));
    no(-6, x.set(0, MOST));
    due(99, x.set(0, 99));
  }

  @Says("-6") void promise28_set_minus6AwayAbove99() {
    no(-6, x.set(1, 100));
    no(-6, x.set(1, 999));
    no(-6, x.set(1, MOST));
    due(10, x.set(1, 10));
  }

  @Says("-2; -4; -6") void promise28_set_minus2AheadOfMinus4AndMinus6() {
    no(-2, x.set(2, -1));
    no(-2, x.set(2, 1000));
    no(-2, x.set(-1, -1));
  }

  // ---- Promise 29

  private static final String COST = "COST of a set of VIEWS";

  @Says(COST) void promise29_cost_0OfANewObject() {
    due(0, x.cost(0));
  }

  @Says(COST) void promise29_cost_theGreatest() {
    sixViews();
    for (int ask = 0; ask < 10; ask++) {
      ask("2ab");
      due(0, x.weight(ask, 99));
    }
    for (int view = 0; view < 6; view++) {
      due(1, x.size(view, 99, 99));
    }
    due(10, x.set(1, 99));
    due(6 * 99 + 10 * 99 * 99, x.cost(63));
    due(10 * 99 * 99, x.cost(0));
    due(98010, x.which(1));
  }

  @Says(COST) void promise29_cost_theEmptySetAndAllSix() {
    sixViews();
    asks("0ab:a", "1ab:a");
    due(0, x.weight(0, 2));
    due(0, x.weight(1, 3));
    for (int view = 0; view < 6; view++) {
      due(1, x.size(view, 1, 1 << view));
    }
    due(50, x.cost(0));
    due(63 + 5, x.cost(63));
    due(1 + 2 + 30, x.cost(1));
    due(32 + 20 + 3, x.cost(32));
  }

  @Says("-1") void promise29_cost_minus1OneViewTooFar() {
    no(-1, x.cost(1));
    views("0ab");
    no(-1, x.cost(2));
    no(-1, x.cost(3));
    anew();
    sixViews();
    no(-1, x.cost(64));
    no(-1, x.cost(127));
  }

  @Says("-1") void promise29_cost_minus1FarSets() {
    sixViews();
    no(-1, x.cost(-1));
    no(-1, x.cost(LEAST));
    no(-1, x.cost(LEAST | 1));
    no(-1, x.cost(MOST));
  }

  @Says("-5 (of some ASK)") void promise29_cost_minus5() {
    thirteen();
    due(0, x.weight(1, 1));
    for (int views = 0; views < 16; views++) {
      no(-5, x.cost(views));
    }
  }

  @Says("-1; -5 (of some ASK)") void promise29_cost_minus1AheadOfMinus5() {
    thirteen();
    no(-1, x.cost(16));
    no(-1, x.cost(-1));
  }

  // ---- Promise 30

  private static final String WHICH = "WHICH (what 0), its COST (1)";

  @Says(WHICH) void promise30_which_0WithoutViews() {
    asks("0ab");
    due(0, x.weight(0, 9));
    due(0, x.which(0));
    due(90, x.which(1));
  }

  @Says(WHICH) void promise30_which_sizesThatAreJustRoom() {
    views("0ab", "1ab");
    asks("0ab", "1ab");
    due(0, x.weight(0, 5));
    due(0, x.weight(1, 4));
    due(1, x.size(0, 50, 0));
    due(1, x.size(1, 49, 0));
    due(3, x.which(0));
    due(9, x.which(1));
    due(1, x.size(1, 50, 0));
    due(1, x.which(0));
    due(45, x.which(1));
    due(99, x.set(0, 100));
    due(3, x.which(0));
  }

  @Says(WHICH) void promise30_which_roomOf0() {
    views("0ab", "0ab:a");
    asks("0ab");
    due(0, x.weight(0, 5));
    due(99, x.set(0, 0));
    due(1, x.which(0));
    due(1, x.size(0, 1, 0));
    due(2, x.which(0));
    due(1, x.size(1, 1, 0));
    due(0, x.which(0));
    due(50, x.which(1));
  }

  @Says(WHICH) void promise30_which_allSix() {
    views("000", "001", "010", "011", "100", "101");
    asks("000", "001", "010", "011", "100", "101");
    for (int i = 0; i < 6; i++) {
      due(0, x.weight(i, 1));
      due(1, x.size(i, 99, 8));
    }
    due(99, x.set(0, 594));
    due(63, x.which(0));
    due(54, x.which(1));
    due(594, x.set(0, 593));
    due(31, x.which(0));
    due(55, x.which(1));
  }

  @Says("-2") void promise30_which_minus2WhatBelow() {
    no(-2, x.which(-1));
    no(-2, x.which(LEAST));
  }

  @Says("-2") void promise30_which_minus2WhatAbove() {
    no(-2, x.which(2));
    no(-2, x.which(MOST));
  }

  @Says("-5") void promise30_which_minus5() {
    thirteen();
    no(-5, x.which(0));
    no(-5, x.which(1));
  }

  @Says("-2; -5") void promise30_which_minus2AheadOfMinus5() {
    thirteen();
    no(-2, x.which(2));
    no(-2, x.which(-1));
  }

  // ---- Promise 31

  private static final String HOURS = "HOURS of a VIEW: 1";

  @Says(HOURS) void promise31_hours_theLeastAndTheGreatest() {
    views("0ab");
    asks("0ab");
    due(1, x.hours(0, 0, 0));
    due(0, x.latest(0));
    due(1, x.hours(0, 0, 99));
    due(99, x.latest(0));
    due(1, x.hours(0, 99, 99));
    due(99, x.latest(0));
  }

  @Says(HOURS) void promise31_hours_ofTheFirstAndTheLastView() {
    sixViews();
    asks("0ab", "1ab");
    due(1, x.hours(0, 3, 4));
    due(1, x.hours(5, 5, 6));
    due(4, x.latest(0));
    due(6, x.latest(1));
  }

  @Says("-1") void promise31_hours_minus1ViewBelow() {
    sixViews();
    no(-1, x.hours(-1, 0, 0));
    no(-1, x.hours(LEAST, 0, 0));
  }

  @Says("-1") void promise31_hours_minus1ViewAbove() {
    no(-1, x.hours(0, 0, 0));
    sixViews();
    no(-1, x.hours(6, 0, 0));
    no(-1, x.hours(MOST, 0, 0));
  }

  private void hoursAreStill7To8() {
    due(8, x.latest(0));
    views("0ab,0cd");
    due(1, x.hours(1, 7, 7));
    due(8, x.latest(0));
  }

  private void hoursFrom7To8() {
    views("0ab");
    asks("0ab");
    due(1, x.hours(0, 7, 8));
  }

  @Says("-4") void promise31_hours_minus4FromBelow() {
    hoursFrom7To8();
    no(-4, x.hours(0, -1, 9));
    no(-4, x.hours(0, LEAST, 9));
    hoursAreStill7To8();
  }

  @Says("-4") void promise31_hours_minus4ToBelow() {
    hoursFrom7To8();
    no(-4, x.hours(0, 0, -1));
    no(-4, x.hours(0, 0, LEAST));
    hoursAreStill7To8();
  }

  @Says("-6") void promise31_hours_minus6FromAbove() {
    hoursFrom7To8();
    no(-6, x.hours(0, 100, 100));
    no(-6, x.hours(0, MOST, MOST));
    hoursAreStill7To8();
  }

  @Says("-6") void promise31_hours_minus6ToAbove() {
    hoursFrom7To8();
    no(-6, x.hours(0, 0, 100));
    no(-6, x.hours(0, 0, MOST));
    hoursAreStill7To8();
  }

  @Says("-3 TO ahead of FROM") void promise31_hours_minus3() {
    hoursFrom7To8();
    no(-3, x.hours(0, 1, 0));
    no(-3, x.hours(0, 99, 98));
    no(-3, x.hours(0, 99, 0));
    hoursAreStill7To8();
  }

  @Says("-3 TO ahead of FROM") void promise31_hours_toMayBeFrom() {
    hoursFrom7To8();
    for (int hour = 0; hour < 100; hour += 11) {
      due(1, x.hours(0, hour, hour));
      due(hour, x.latest(0));
    }
  }

  @Says("-1; -4; -6; -3 TO ahead of FROM") void promise31_hours_theFirstRefusalThatFits() {
    hoursFrom7To8();
    no(-1, x.hours(1, -1, 100));
    no(-1, x.hours(-1, 5, 4));
    no(-4, x.hours(0, -1, 100));
    no(-4, x.hours(0, 100, -1));
    no(-4, x.hours(0, 5, -1));
    no(-6, x.hours(0, 100, 5));
    hoursAreStill7To8();
  }

  // ---- Promise 32

  @Says("LATEST") void promise32_latest_theLeastAndTheGreatest() {
    views("0ab");
    asks("0ab", "000,001");
    due(0, x.latest(0));
    due(1, x.hours(0, 0, 99));
    due(99, x.latest(0));
    due(1, x.hours(0, 0, 98));
    due(98, x.latest(0));
    keys(0);
    due(99, x.latest(1));
  }

  @Says("-9") void promise32_latest_minus9WithoutACover() {
    asks("0ab");
    due(-9, x.latest(0));
    views("1ab");
    due(-9, x.latest(0));
  }

  @Says("-9") void promise32_latest_minus9NoHourInAllSpans() {
    views("0ab:ab", "1ab:ab");
    asks("0ab,1bc");
    due(1, x.hours(0, 0, 49));
    due(1, x.hours(1, 50, 99));
    due(-9, x.latest(0));
    due(1, x.hours(1, 49, 99));
    due(49, x.latest(0));
  }

  @Says("-1") void promise32_latest_minus1AskBelow() {
    asks("0ab");
    no(-1, x.latest(-1));
    no(-1, x.latest(LEAST));
  }

  @Says("-1") void promise32_latest_minus1AskAbove() {
    no(-1, x.latest(0));
    asks(TEN);
    sixViews();
    due(0, x.latest(9));
    no(-1, x.latest(10));
    no(-1, x.latest(MOST));
  }

  @Says("-5") void promise32_latest_minus5() {
    thirteen();
    no(-5, x.latest(1));
    due(0, x.latest(0));
  }

  // ---- Promise 33

  private static final String GIVEN = "GIVEN, or not: 1";

  @Says(GIVEN) void promise33_given_theFirstAndTheLastView() {
    sixViews();
    due(1, x.given(0, true));
    due(1, x.given(5, true));
    due(1, x.given(0, false));
    due(1, x.given(5, false));
  }

  @Says("0 it was so") void promise33_given_0ItWasNot() {
    sixViews();
    due(0, x.given(0, false));
    due(0, x.given(5, false));
  }

  @Says("0 it was so") void promise33_given_0ItWas() {
    sixViews();
    due(1, x.given(5, true));
    due(0, x.given(5, true));
    due(0, x.given(4, false));
    due(1, x.given(5, false));
    due(0, x.given(5, false));
  }

  @Says("-1") void promise33_given_minus1ViewBelow() {
    sixViews();
    no(-1, x.given(-1, true));
    no(-1, x.given(-1, false));
    no(-1, x.given(LEAST, true));
  }

  @Says("-1") void promise33_given_minus1ViewAbove() {
    no(-1, x.given(0, true));
    no(-1, x.given(0, false));
    sixViews();
    no(-1, x.given(6, true));
    no(-1, x.given(MOST, false));
  }

  @Says("-3 it has no HEAD") void promise33_given_minus3() {
    views("0ab", "0ab:a");
    no(-3, x.given(0, true));
    no(-3, x.given(0, false));
    due(1, x.given(1, true));
  }

  // ---- Promise 34

  private static final String PLAN =
      "PLAN: SHOWS as digits to the base 13 (each and 1), the first asked the lowest";

  @Says(PLAN) void promise34_plan_ofNothing() {
    views("0ab:a");
    asks("000,001");
    keys(0);
    due(0, x.plan(0));
    due(1, x.given(0, true));
    due(0, x.plan(0));
  }

  @Says(PLAN) void promise34_plan_theFirstShowAlone() {
    views("0ab");
    asks("0ab");
    due(1, x.plan(0));
  }

  @Says(PLAN) void promise34_plan_theLastShowOfTwelveAlone() {
    views("0ab:ab", "0ab:ba", "0ab:aab", "0ab,0bc:b", "0ab,0bc,0cd,1ee:e");
    asks("0ab,0bc,0cd,1ee:e");
    due(12, x.shows(0));
    due(12, x.plan(0));
  }

  @Says(PLAN) void promise34_plan_theGreatest() {
    views("0ab,0cd:bd", "0ab,0cd:db", "0ab:a", "0ab,1bc:ab", "1ab:ab", "2ab:ab");
    asks("0ab,1bc,2cd,0ae:ad");
    due(12, x.shows(0));
    due(10 + 11 * 13 + 12 * 169, x.plan(0));
  }

  @Says(PLAN) void promise34_plan_theLastOfTwelveIsAskedFirst() {
    views("0ab,0cd:bd", "0ab,0cd:db", "0ab:a", "0ab,1bc:ba", "1ab:ba", "2ab:ab");
    asks("0ab,1bc,2cd,0ae:ad");
    due(1, x.given(3, true));
    due(1, x.given(4, true));
    due(12 + 11 * 13 + 10 * 169, x.plan(0));
  }

  @Says("-9 none") void promise34_plan_minus9WithoutACover() {
    asks("0ab");
    due(-9, x.plan(0));
    views("1ab:a");
    due(-9, x.plan(0));
  }

  @Says("-9 none") void promise34_plan_minus9WithoutAnOrder() {
    views("0ab:a");
    asks("0ab");
    due(1, x.given(0, true));
    due(-9, x.plan(0));
    due(1, x.given(0, false));
    due(1, x.plan(0));
  }

  @Says("-1") void promise34_plan_minus1AskBelow() {
    asks("0ab");
    no(-1, x.plan(-1));
    no(-1, x.plan(LEAST));
  }

  @Says("-1") void promise34_plan_minus1AskAbove() {
    no(-1, x.plan(0));
    asks(TEN);
    sixViews();
    due(1, x.plan(9));
    no(-1, x.plan(10));
    no(-1, x.plan(MOST));
  }

  @Says("-5") void promise34_plan_minus5() {
    thirteen();
    no(-5, x.plan(1));
    due(1, x.plan(0));
  }

  @Says("-9 none; -1; -5") void promise34_plan_minus5ThoughThereIsNone() {
    thirteen();
    no(-5, x.plan(1));
    no(-1, x.plan(2));
  }
}
