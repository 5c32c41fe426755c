/** A new object is empty. */
final class SmokeTest {
  public static void main(String[] args) {
    Due due = new Due("SmokeTest");
    KeptAnswers x = new KeptAnswers();
    due.is("rows(0)", x.rows(0), 0);
    due.is("count(0)", x.count(0), 0);
    due.close();
  }
}
