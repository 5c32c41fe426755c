import java.lang.reflect.Method;
import java.util.ArrayList;
import java.util.HashMap;
import java.util.List;
import java.util.Map;

/** Each sentence of each promise and of the Terms has a test of its own among the Edges. */
final class EverySentenceTest {
  private static final List<Class<? extends Edges>> EDGES = List.of(EdgesOfTermsTest.class,
      EdgesOfTablesTest.class, EdgesOfPicturesTest.class, EdgesOfShowsTest.class, EdgesOfWorldsTest.class,
      EdgesOfWeekTest.class, EdgesOfImageTest.class);

  private EverySentenceTest() {}

  /** What a test's name begins with: the section that its sentence stands in. */
  private static String sectionOf(Method test) {
    return test.getName().substring(0, Math.max(0, test.getName().indexOf('_')));
  }

  public static void main(String[] args) throws Exception {
    Due due = new Due("EverySentenceTest");
    Map<String, List<String>> doc = Doc.sections();
    due.is("37 promises, Terms, calls", doc.size(), 39);
    Map<String, List<String>> tested = new HashMap<>();
    for (Class<? extends Edges> edges : EDGES) {
      for (Method test : Edges.testsOf(edges)) {
        List<String> sentences = doc.getOrDefault(sectionOf(test), List.of());
        for (String sentence : Doc.sentences(test.getAnnotation(Edges.Says.class).value())) {
          due.is(test.getName() + ": \"" + sentence + "\" stands there", sentences.contains(sentence) ? 1 : 0, 1);
          tested.computeIfAbsent(sectionOf(test), section -> new ArrayList<>()).add(sentence);
        }
      }
    }
    for (String section : doc.keySet()) {
      for (String sentence : doc.get(section)) {
        boolean isTested = section.equals("calls") && !sentence.startsWith("An object is used")
            || tested.getOrDefault(section, List.of()).contains(sentence);
        due.is(section + ": a test of \"" + sentence + "\"", isTested ? 1 : 0, 1);
      }
    }
    due.close();
  }
}
