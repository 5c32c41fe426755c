import java.lang.annotation.ElementType;
import java.lang.annotation.Retention;
import java.lang.annotation.RetentionPolicy;
import java.lang.annotation.Target;
import java.lang.reflect.Method;
import java.util.ArrayList;
import java.util.Comparator;
import java.util.List;

/**
 * Tests of boundary cases. Each is a method of its own with an object of its own, named after its
 * promise (or "terms", or "calls") and what it holds, and tells the sentence of the document that it
 * holds. At its end REFUSALS must be the ones that it awaited, no more of any number.
 */
abstract class Edges {
  /** Sentences of the document, as Doc parts them. */
  @Retention(RetentionPolicy.RUNTIME)
  @Target(ElementType.METHOD)
  @interface Says {
    String value();
  }

  static final int LEAST = Integer.MIN_VALUE;
  static final int MOST = Integer.MAX_VALUE;

  /** The object of the test that runs. */
  KeptAnswers x = new KeptAnswers();
  private final int[] refused = new int[7];
  private Due due;
  private String name;

  /** Runs all tests of a class, or those whose names begin with a word; ends the run if one failed. */
  static void run(Class<? extends Edges> tests, String... words) throws ReflectiveOperationException {
    Due due = new Due(tests.getSimpleName());
    for (Method test : testsOf(tests)) {
      if (words.length > 0 && !test.getName().startsWith(words[0])) {
        continue;
      }
      Edges edges = tests.getDeclaredConstructor().newInstance();
      edges.due = due;
      edges.name = test.getName() + " (\"" + test.getAnnotation(Says.class).value() + "\")";
      test.setAccessible(true);
      test.invoke(edges);
      edges.end();
    }
    due.close();
  }

  /** Methods that tell a sentence, by name. */
  static List<Method> testsOf(Class<? extends Edges> tests) {
    List<Method> found = new ArrayList<>();
    for (Method method : tests.getDeclaredMethods()) {
      if (method.isAnnotationPresent(Says.class)) {
        found.add(method);
      }
    }
    found.sort(Comparator.comparing(Method::getName));
    return found;
  }

  private void end() {
    for (int number = 1; number < refused.length; number++) {
      due.is(name + ": REFUSALS -" + number, x.count(10 + number), refused[number]);
    }
  }

  /** The answer that is due. */
  void due(long want, long got) {
    due.is(got == want ? name : name + ", line " + line(), got, want);
  }

  /** The REFUSAL that is due; it is awaited among how many there were. */
  void no(int number, int got) {
    refused[-number]++;
    due(number, got);
  }

  private static int line() {
    for (StackTraceElement at : new Throwable().getStackTrace()) {
      if (!at.getClassName().equals("Edges")) {
        return at.getLineNumber();
      }
    }
    return 0;
  }

  /** Goes on with a new object, once REFUSALS of the one before were the ones that were awaited. */
  void anew() {
    end();
    java.util.Arrays.fill(refused, 0);
    x = new KeptAnswers();
  }

  void ask(String text) {
    int number = x.count(0);
    due(number, Due.ask(x, text));
  }

  void asks(String... texts) {
    for (String text : texts) {
      ask(text);
    }
  }

  void views(String... texts) {
    for (String text : texts) {
      int number = x.count(1);
      due(number, Due.view(x, text));
    }
  }

  /** Rows such as 001 (TABLE, x, y) come in. */
  void rows(String... rows) {
    for (String row : rows) {
      due(1, x.in(row.charAt(0) - '0', row.charAt(1) - '0', row.charAt(2) - '0'));
    }
  }

  void keys(int... tables) {
    for (int table : tables) {
      due(1, x.key(table, true));
    }
  }

  void put(int... bytes) {
    for (int b : bytes) {
      int had = x.count(6);
      due(had + 1, x.put(b));
    }
  }
}
