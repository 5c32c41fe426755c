import java.io.IOException;
import java.lang.reflect.Constructor;
import java.lang.reflect.Member;
import java.lang.reflect.Method;
import java.lang.reflect.Modifier;
import java.nio.file.Files;
import java.nio.file.Path;
import java.util.ArrayList;
import java.util.List;

/** "The public face": the class has the members that the document writes there, and no others. */
final class FaceTest {
  private FaceTest() {}

  /** Members of the face as the document writes them, the names of their parameters left out. */
  static List<String> told() throws IOException {
    String doc = Files.readString(Path.of("..", "shared", "DOC.md"));
    int start = doc.indexOf("{\n", doc.indexOf("## The public face"));
    List<String> members = new ArrayList<>();
    for (String line : doc.substring(start + 2, doc.indexOf("}\n", start)).split("\n")) {
      members.add(line.strip().replaceAll("(\\w+) \\w+(?=[,)])", "$1"));
    }
    return members;
  }

  private static String parameters(Class<?>[] types) {
    StringBuilder all = new StringBuilder();
    for (Class<?> type : types) {
      all.append(all.length() > 0 ? ", " : "").append(type.getSimpleName());
    }
    return "(" + all + ");";
  }

  private static boolean isSeen(Member member) {
    return !Modifier.isPrivate(member.getModifiers()) && !member.isSynthetic();
  }

  private static List<String> seen() {
    List<String> members = new ArrayList<>();
    for (Constructor<?> made : KeptAnswers.class.getDeclaredConstructors()) {
      members.add(Modifier.toString(made.getModifiers()) + " KeptAnswers" + parameters(made.getParameterTypes()));
    }
    for (Method method : KeptAnswers.class.getDeclaredMethods()) {
      if (isSeen(method)) {
        String kind = Modifier.toString(method.getModifiers()) + " " + method.getReturnType().getSimpleName();
        members.add(kind + " " + method.getName() + parameters(method.getParameterTypes()));
      }
    }
    for (Member field : KeptAnswers.class.getDeclaredFields()) {
      if (isSeen(field)) {
        members.add("field " + field.getName());
      }
    }
    return members;
  }

  public static void main(String[] args) throws IOException {
    Due due = new Due("FaceTest");
    List<String> told = told();
    List<String> seen = seen();
    due.is("members that the document writes", told.size(), 37);
    for (String member : told) {
      due.is(member + " is there", seen.contains(member) ? 1 : 0, 1);
    }
    for (String member : seen) {
      due.is(member + " is told", told.contains(member) ? 1 : 0, 1);
    }
    Class<?> face = KeptAnswers.class;
    due.is("a public final class", face.getModifiers(), Modifier.PUBLIC | Modifier.FINAL);
    due.is("without a package", face.getPackageName().length(), 0);
    due.is("of no other class", face.getSuperclass() == Object.class ? 1 : 0, 1);
    due.is("and no interface", face.getInterfaces().length, 0);
    due.close();
  }
}
