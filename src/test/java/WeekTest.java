/** Promises 26 to 34: a WEEK of ASKS, HOURS, VIEWS that must be GIVEN something, PLANS. */
final class WeekTest {
  private final Due due = new Due("WeekTest");

  /** Promise 26. */
  private void weights() {
    KeptAnswers x = Due.with(Due.views(), "0ab", "1ab");
    due.is("weight(1, 99)", x.weight(1, 99), 0);
    due.is("weight(1, 0)", x.weight(1, 0), 99);
    due.is("weight(0, 5)", x.weight(0, 5), 0);
    due.is("weight(1, 5)", x.weight(1, 5), 0);
    due.is("weight(2, -1)", x.weight(2, -1), -1);
    due.is("weight(-1, 100)", x.weight(-1, 100), -1);
    due.is("weight(0, -1)", x.weight(0, -1), -4);
    due.is("weight(0, 100)", x.weight(0, 100), -6);
    due.is("weight(0, 7)", x.weight(0, 7), 5);
    due.refusals(x, "2 0 0 1 0 1");
  }

  /** Promise 27. */
  private void sizes() {
    KeptAnswers x = Due.with(Due.views("0ab", "1ab"));
    due.is("size(0, 99, 99)", x.size(0, 99, 99), 1);
    due.is("cost(1)", x.cost(1), 99);
    due.is("size(0, 3, 4)", x.size(0, 3, 4), 1);
    due.is("cost(1)", x.cost(1), 4);
    due.is("cost(3)", x.cost(3), 4);
    due.is("size(2, 0, 0)", x.size(2, -1, 100), -1);
    due.is("size(-1, 0, 0)", x.size(-1, 0, 0), -1);
    due.is("SIZE above, MEND below", x.size(0, 100, -1), -4);
    due.is("SIZE below, MEND above", x.size(0, -1, 100), -4);
    due.is("SIZE above", x.size(0, 100, 0), -6);
    due.is("MEND above", x.size(0, 0, 100), -6);
    due.is("cost(1)", x.cost(1), 4);
    due.refusals(x, "2 0 0 2 0 2");
  }

  /** Promise 28. */
  private void roomAndAway() {
    KeptAnswers x = new KeptAnswers();
    due.is("set(0, 999)", x.set(0, 999), 99);
    due.is("set(0, 0)", x.set(0, 0), 999);
    due.is("set(1, 99)", x.set(1, 99), 10);
    due.is("set(1, 0)", x.set(1, 0), 99);
    due.is("set(2, -1)", x.set(2, -1), -2);
    due.is("set(-1, 1000)", x.set(-1, 1000), -2);
    due.is("set(0, -1)", x.set(0, -1), -4);
    due.is("set(1, -1)", x.set(1, -1), -4);
    due.is("set(0, 1000)", x.set(0, 1000), -6);
    due.is("set(1, 100)", x.set(1, 100), -6);
    due.is("set(0, 1)", x.set(0, 1), 0);
    due.is("set(1, 1)", x.set(1, 1), 0);
    due.refusals(x, "0 2 0 2 0 2");
  }

  /** Promises 29 and 30. */
  private void costs() {
    KeptAnswers x = Due.with(Due.views("0ab:ab", "1ab:ab", "0ab,1bc:ac"), "0ab:ab", "0ab,1bc:ac", "000,001", "2ab");
    x.weight(0, 2);
    x.weight(1, 5);
    x.weight(3, 1);
    x.size(0, 10, 3);
    x.size(1, 10, 4);
    x.size(2, 30, 6);
    int[] want = {80, 65, 84, 24, 41, 26, 45, 30};
    costsAre(x, want);
    due.is("which(0)", x.which(0), 3);
    due.is("which(1)", x.which(1), 24);
    x.set(0, 19);
    due.is("which(0) with ROOM 19", x.which(0), 1);
    due.is("which(1) with ROOM 19", x.which(1), 65);
    x.set(0, 20);
    due.is("which(0) with ROOM 20", x.which(0), 3);
    x.size(1, 99, 99);
    x.set(0, 40);
    due.is("which(0) with ROOM 40", x.which(0), 5);
    x.set(0, 39);
    due.is("which(0) with ROOM 39", x.which(0), 4);
    x.set(0, 9);
    due.is("which(0) with ROOM 9", x.which(0), 0);
    due.is("which(1) with ROOM 9", x.which(1), 80);
    x.set(1, 0);
    due.is("cost(0) with AWAY 0", x.cost(0), 0);
    x.key(0, true);
    x.weight(2, 7);
    due.is("NOTHING costs its WEIGHT once", x.cost(0), 7);
    x.set(1, 99);
    due.is("whatever AWAY is", x.cost(0), 8 * 99 + 7);
    due.is("which(2)", x.which(2), -2);
    due.is("which(-1)", x.which(-1), -2);
    due.is("cost(8)", x.cost(8), -1);
    due.is("cost(-1)", x.cost(-1), -1);
    due.refusals(x, "2 2 0 0 0 0");
  }

  private void costsAre(KeptAnswers x, int[] want) {
    for (int views = 0; views < want.length; views++) {
      due.is("cost(" + views + ")", x.cost(views), want[views]);
    }
  }

  /** Promise 30: of several the one with fewer VIEWS, then the least as bits. */
  private void cheapestOfSeveral() {
    KeptAnswers x = Due.with(Due.views("0ab:a", "0ab:b", "0ab:ab", "0ab:ab"), "0ab:a", "0ab:b");
    due.is("nothing to win", x.which(0), 0);
    x.weight(0, 1);
    x.weight(1, 1);
    due.is("one instead of two", x.which(0), 4);
    due.is("which(1)", x.which(1), 2);
    x.size(2, 0, 1);
    due.is("the other one", x.which(0), 8);
    x.size(3, 0, 1);
    due.is("two that cost nothing", x.which(0), 3);
    x.size(0, 0, 1);
    due.is("one MEND, one VIEW", x.which(0), 4);
    due.is("which(1)", x.which(1), 3);
    x.set(1, 1);
    due.is("AWAY costs no more", x.which(0), 0);
    Due.view(x, "0ab,0cd:abd");
    Due.ask(x, "0ab,0bc,0cd,0de");
    due.is("an ASK of WEIGHT 0 is SPENT", x.shows(2), -5);
    due.is("cost", x.cost(0), -5);
    due.is("which", x.which(0), -5);
    due.is("cost of VIEWS that are none", x.cost(32), -1);
    due.is("which of another what", x.which(9), -2);
    due.refusals(x, "1 1 0 0 3 0");
  }

  /** Promises 31 and 32. */
  private void hours() {
    KeptAnswers x = Due.with(Due.views("0ab:ab", "1ab:ab", "0ab,1bc:ac"), "0ab,1bc:ac", "000,001", "2ab", "1ab");
    due.is("hours 0 and 0 at first", x.latest(0), 0);
    due.is("hours(0, 10, 20)", x.hours(0, 10, 20), 1);
    due.is("the spans do not meet, but one VIEW does alone", x.latest(0), 0);
    x.hours(2, 99, 99);
    due.is("latest", x.latest(0), 99);
    x.hours(2, 3, 4);
    due.is("latest", x.latest(0), 4);
    x.hours(1, 20, 30);
    due.is("one hour in both", x.latest(0), 20);
    x.hours(1, 21, 30);
    due.is("no hour in both", x.latest(0), 4);
    x.hours(0, 25, 28);
    due.is("latest", x.latest(0), 28);
    due.is("of another ASK", x.latest(3), 30);
    due.is("two SHOWS of one VIEW", x.latest(1), 28);
    due.is("no SHOW, no COVER", x.latest(2), -9);
    x.key(0, true);
    due.is("the empty COVER", x.latest(1), 99);
    due.is("hours(3, ..)", x.hours(3, -1, 100), -1);
    due.is("hours(-1, ..)", x.hours(-1, 0, 0), -1);
    due.is("FROM above, TO below", x.hours(0, 100, -1), -4);
    due.is("FROM below", x.hours(0, -1, 100), -4);
    due.is("FROM above", x.hours(0, 100, 5), -6);
    due.is("TO above", x.hours(0, 5, 100), -6);
    due.is("TO ahead of FROM", x.hours(0, 5, 4), -3);
    due.is("TO as FROM", x.hours(0, 5, 5), 1);
    due.is("latest(4)", x.latest(4), -1);
    due.is("latest(-1)", x.latest(-1), -1);
    due.refusals(x, "4 0 1 2 0 2");
  }

  /** Promise 33. */
  private void given() {
    KeptAnswers x = Due.with(Due.views("0ab:a", "0ab"));
    due.is("not at first", x.given(0, false), 0);
    due.is("given(0, true)", x.given(0, true), 1);
    due.is("so it was", x.given(0, true), 0);
    due.is("given(0, false)", x.given(0, false), 1);
    due.is("no HEAD", x.given(1, true), -3);
    due.is("no HEAD", x.given(1, false), -3);
    due.is("given(2, true)", x.given(2, true), -1);
    due.is("given(-1, false)", x.given(-1, false), -1);
    due.refusals(x, "2 0 2 0 0 0");
  }

  /** Promise 34. */
  private void plans() {
    KeptAnswers x = Due.with(Due.views("0ab:ab", "1ab:ab", "1ab:ba"), "0ab,1bc:ac", "01a:a", "000,001", "2ab");
    due.is("SHOWS of ASK 0", x.shows(0), 3);
    due.is("plan(0)", x.plan(0), 1 + 2 * 13);
    x.given(1, true);
    due.is("the second is GIVEN by the first", x.plan(0), 1 + 2 * 13);
    x.given(1, false);
    x.given(0, true);
    due.is("the first would want a name that none gives", x.plan(0), -9);
    due.is("a VALUE is known", x.plan(1), 1);
    due.is("two SHOWS of VALUES", x.plan(2), 1 + 2 * 13);
    due.is("no SHOW, no COVER", x.plan(3), -9);
    x.key(0, true);
    due.is("the empty COVER", x.plan(2), 0);
    due.is("plan(4)", x.plan(4), -1);
    due.is("plan(-1)", x.plan(-1), -1);
    due.refusals(x, "2 0 0 0 0 0");
    plansOfMore();
  }

  private void plansOfMore() {
    KeptAnswers x = Due.with(Due.views("0ab:ba", "1ab:ab", "1ab:a"), "0ab,1ac:abc", "0ab:ab");
    due.is("as told", x.plan(0), 1 + 2 * 13);
    x.given(0, true);
    due.is("what gives nothing asked for does not help", x.plan(0), -9);
    due.is("no other one to ask ahead", x.plan(1), -9);
    KeptAnswers y = Due.with(Due.views("1ab:ab", "2ab:ab", "0ab:ab"), "0ab,1bc,2cd:ad", "0ab,1ba:a");
    y.given(0, true);
    y.given(1, true);
    due.is("the least that can be asked is next", y.plan(0), 3 + 1 * 13 + 2 * 169);
    y.given(2, true);
    due.is("none can be first", y.plan(0), -9);
    y.given(0, false);
    y.given(1, false);
    due.is("a NAME that is the other TERM of a SHOW asked ahead", y.plan(1), 1 + 2 * 13);
    KeptAnswers z = Due.with(Due.views("0ab:ab", "1ab:a"), "0ab,1ac:ab");
    z.given(0, true);
    due.is("cover(0, 1)", z.cover(0, 1), 3);
    due.is("the second is asked first", z.plan(0), 2 + 1 * 13);
    Due.ask(z, "0ab,1ac:a");
    Due.view(z, "0ab:a");
    z.given(2, true);
    due.is("of two COVERS the least as bits", z.plan(1), 2 + 1 * 13);
    largerPlan();
  }

  /** A COVER that can not be asked, and a larger one that can. */
  private void largerPlan() {
    KeptAnswers y = Due.with(Due.views("0ab:a", "0ab:ab"), "0ab:ab");
    due.is("cover(0, 1)", y.cover(0, 1), 2);
    due.is("plan", y.plan(0), 2);
    y.given(1, true);
    due.is("one SHOW does not do any more", y.plan(0), 1 + 2 * 13);
    y.given(0, true);
    due.is("both wait", y.plan(0), -9);
    y.given(1, false);
    due.is("plan", y.plan(0), 2);
    KeptAnswers x = Due.with(Due.views("0ab:ab", "1ab:ab", "0ab,1bc:ac"), "0ab,1bc:ac");
    due.is("the fewest SHOWS ahead of the least as bits", x.plan(0), 3);
    x.given(2, true);
    due.is("two SHOWS", x.plan(0), 1 + 2 * 13);
  }

  /** Promises 26 to 34 with as many ASKS and VIEWS as there may be. */
  private void full() {
    KeptAnswers x = new KeptAnswers();
    for (int i = 0; i < 10; i++) {
      Due.ask(x, i % 2 == 0 ? "0ab:ab" : "1ab");
      x.weight(i, i);
    }
    for (int i = 0; i < 6; i++) {
      Due.view(x, i < 5 ? "0ab:ab" : "1ab");
      x.size(i, 10, 1);
      x.hours(i, i, i);
      x.keep(i, true);
    }
    due.is("cost(0)", x.cost(0), 450);
    due.is("cost(63)", x.cost(63), 45 + 6);
    due.is("cost(64)", x.cost(64), -1);
    due.is("which(0)", x.which(0), 33);
    due.is("which(1)", x.which(1), 47);
    due.is("latest(8)", x.latest(8), 4);
    due.is("latest(9)", x.latest(9), 5);
    due.is("plan(9)", x.plan(9), 1);
    due.is("may(9, 32)", x.may(9, 32), 1);
    due.is("may(9, 31)", x.may(9, 31), 0);
    due.is("besides(9)", x.besides(9), 0);
    due.is("worlds()", x.worlds(), 16);
    due.is("image()", x.image(), 6);
    due.is("restore()", x.restore(), 6);
    due.is("cost(33)", x.cost(33), 47);
    due.refusals(x, "1 0 0 0 0 0");
  }

  public static void main(String[] args) {
    WeekTest test = new WeekTest();
    test.weights();
    test.sizes();
    test.roomAndAway();
    test.costs();
    test.cheapestOfSeveral();
    test.hours();
    test.given();
    test.plans();
    test.full();
    test.due.close();
  }
}
