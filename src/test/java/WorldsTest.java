/** Promises 22 to 25: answers that are KEPT, and what all tables that give them tell. */
final class WorldsTest {
  private final Due due = new Due("WorldsTest");

  /** Promise 22. */
  private void kept() {
    KeptAnswers x = Due.with(Due.views("0ab:ab", "0ab:a", "0ab"));
    x.in(0, 1, 0);
    due.is("keep(0)", x.keep(0, true), 2);
    due.is("keep(1)", x.keep(1, true), 2);
    due.is("keep(2)", x.keep(2, true), 1);
    due.is("count(4)", x.count(4), 3);
    x.in(0, 0, 1);
    due.is("KEPT as it was", x.worlds(), 256);
    due.is("KEPT again", x.keep(0, true), 6);
    due.is("count(4)", x.count(4), 3);
    due.is("not any more", x.keep(1, false), -9);
    due.is("nor before", x.keep(1, false), -9);
    due.is("count(4)", x.count(4), 2);
    due.is("keep(3)", x.keep(3, true), -1);
    due.is("keep(-1)", x.keep(-1, false), -1);
    due.refusals(x, "2 0 0 0 0 0");
  }

  /** Promise 23. */
  private void howManyWorlds() {
    KeptAnswers x = Due.with(Due.views("0ab,1ba", "2ab:ab", "0aa:a"));
    due.is("worlds()", x.worlds(), 4096);
    x.key(0, true);
    due.is("one KEY", x.worlds(), 9 * 256);
    x.key(2, true);
    due.is("two KEYS", x.worlds(), 9 * 9 * 16);
    x.key(1, true);
    due.is("three KEYS", x.worlds(), 9 * 9 * 9);
    x.key(0, false);
    x.key(1, false);
    x.key(2, false);
    x.keep(0, true);
    due.is("no row of TABLE 0 stands in TABLE 1 with its ends for each other", x.worlds(), 81 * 16);
    x.in(0, 0, 1);
    x.in(1, 1, 0);
    x.keep(0, true);
    due.is("some row does", x.worlds(), 4096 - 81 * 16);
    x.in(2, 1, 1);
    x.keep(1, true);
    due.is("TABLE 2 is known", x.worlds(), 256 - 81);
    x.keep(2, true);
    due.is("no row of one TERM in TABLE 0", x.worlds(), 64 - 36);
    x.key(2, true);
    due.is("a KEY that the answer keeps", x.worlds(), 64 - 36);
    x.keep(1, false);
    x.keep(0, false);
    due.is("rows of two TERMS alone", x.worlds(), 4 * 16 * 9);
    due.refusals(x, "0 0 0 0 0 0");
  }

  private void sureIs(KeptAnswers x, int ask, int surely, int could) {
    due.is("sure(" + ask + ", 0)", x.sure(ask, 0), surely);
    due.is("sure(" + ask + ", 1)", x.sure(ask, 1), could);
  }

  /** Promise 24. */
  private void sureOrNot() {
    KeptAnswers x = Due.with(Due.views("0ab:b", "0ab:a", "0ab"), "0ab:a", "0ab:b", "0ab:ab", "0ab", "0ab,0cb:aac", "1ab");
    x.in(0, 0, 1);
    x.in(0, 1, 1);
    x.keep(0, true);
    sureIs(x, 0, 0, 3);
    sureIs(x, 1, 2, 2);
    sureIs(x, 2, 0, 12);
    sureIs(x, 3, 1, 1);
    sureIs(x, 4, 0, 1 | 1 << 3 | 1 << 4 | 1 << 7);
    sureIs(x, 5, 0, 1);
    x.keep(1, true);
    sureIs(x, 0, 3, 3);
    sureIs(x, 2, 12, 12);
    due.is("sure(6, 0)", x.sure(6, 2), -1);
    due.is("sure(-1, 0)", x.sure(-1, 0), -1);
    due.is("sure(0, 2)", x.sure(0, 2), -2);
    due.is("sure(0, -1)", x.sure(0, -1), -2);
    x.out(0, 0, 1);
    x.out(0, 1, 1);
    x.keep(2, true);
    sureIs(x, 3, -9, -9);
    due.is("sure(0, 2) with no WORLD", x.sure(0, 2), -2);
    due.is("besides with no WORLD", x.besides(3), -9);
    due.refusals(x, "2 3 0 0 0 0");
  }

  /** Promise 24: KEYS tell, too. */
  private void sureByKeys() {
    KeptAnswers x = Due.with(Due.views("00a:a"), "000", "001", "0ab,0a0,0a1");
    x.in(0, 0, 1);
    sureIs(x, 2, 0, 1);
    x.keep(0, true);
    sureIs(x, 0, 0, 0);
    sureIs(x, 1, 1, 1);
    x.in(0, 0, 0);
    x.keep(0, true);
    sureIs(x, 0, 1, 1);
    sureIs(x, 2, 1, 1);
    x.out(0, 0, 0);
    x.key(0, true);
    due.is("the kept answer breaks the KEY", x.worlds(), 0);
    x.keep(0, false);
    sureIs(x, 2, 0, 0);
    sureIs(x, 1, 0, 1);
  }

  /** Promises 24 and 25 where the other TABLES are known to be empty. */
  private void oneTableLeft() {
    KeptAnswers x = Due.with(Due.views("1ab", "2ab", "0ab:ab"), "0ab:ab", "0ab:b");
    x.in(0, 1, 0);
    x.keep(0, true);
    x.keep(1, true);
    due.is("worlds()", x.worlds(), 16);
    sureIs(x, 0, 0, 15);
    sureIs(x, 1, 0, 3);
    due.is("besides(1)", x.besides(1), 4);
    x.keep(2, true);
    due.is("worlds()", x.worlds(), 1);
    sureIs(x, 0, 2, 2);
    sureIs(x, 1, 1, 1);
    due.is("besides(1)", x.besides(1), 0);
  }

  /** Promise 25. */
  private void besides() {
    KeptAnswers x = Due.with(Due.views("0ab:a", "0ab:b", "1ab", "0ab:ab"), "0ab:ab", "0ab", "1ab:a", "0ab,1cd:ac");
    x.in(0, 0, 1);
    x.in(0, 1, 1);
    due.is("one that tells all", x.besides(0), 8);
    due.is("the least as bits of those that tell", x.besides(1), 1);
    due.is("no row at all", x.besides(2), 4);
    due.is("an answer of none", x.besides(3), 4);
    x.in(1, 0, 0);
    due.is("too little is told", x.besides(2), -9);
    due.is("too little is told", x.besides(3), -9);
    x.keep(3, true);
    due.is("nothing besides", x.besides(0), 0);
    x.keep(3, false);
    x.keep(1, true);
    due.is("other ones alone", x.besides(0), 1);
    x.keep(0, true);
    x.keep(1, false);
    due.is("other ones alone", x.besides(0), 2);
    due.is("known by one that is KEPT", x.besides(1), 0);
    x.out(0, 0, 1);
    due.is("an answer that is new, but not against what is KEPT", x.besides(0), 2);
    x.keep(1, true);
    due.is("what is KEPT is not KEPT anew", x.besides(0), 0);
    due.is("besides(4)", x.besides(4), -1);
    due.is("besides(-1)", x.besides(-1), -1);
    due.refusals(x, "2 0 0 0 0 0");
    twoBesides();
  }

  private void twoBesides() {
    KeptAnswers x = Due.with(Due.views("1ab", "0ab:a", "0ab:b", "0ab:a"), "0ab:ab");
    x.in(0, 0, 1);
    x.in(0, 1, 1);
    due.is("two together, the least as bits", x.besides(0), 6);
    x.keep(1, true);
    due.is("the fewest", x.besides(0), 4);
    x.out(0, 0, 1);
    x.out(0, 1, 1);
    x.in(0, 1, 0);
    due.is("a VIEW that is against what is KEPT does not help", x.besides(0), 4);
    KeptAnswers y = Due.with(Due.views("0ab", "0ab,1cd", "1ab,2cd"), "1ab");
    y.keep(0, true);
    y.in(0, 0, 0);
    y.in(1, 0, 0);
    due.is("there must be a WORLD", y.besides(0), -9);
    y.in(2, 0, 0);
    due.is("there is one", y.besides(0), 4);
    KeptAnswers z = Due.with(Due.views("0ab:a", "0ab:b"), "0ab:ab");
    z.in(0, 1, 0);
    z.in(0, 1, 1);
    due.is("all of them", z.besides(0), 3);
  }

  public static void main(String[] args) {
    WorldsTest test = new WorldsTest();
    test.kept();
    test.howManyWorlds();
    test.sureOrNot();
    test.sureByKeys();
    test.oneTableLeft();
    test.besides();
    test.due.close();
  }
}
