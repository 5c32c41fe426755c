import java.io.IOException;
import java.nio.file.Files;
import java.nio.file.Path;
import java.util.ArrayList;
import java.util.LinkedHashMap;
import java.util.List;
import java.util.Map;

/** The document's sections, parted into the sentences that tests are named after. */
final class Doc {
  private static final Path PLACE = Path.of("..", "shared", "DOC.md");

  private Doc() {}

  /** Sentences by section: "promise1" .. "promise37", "terms", "calls" (What it is). */
  static Map<String, List<String>> sections() throws IOException {
    Map<String, List<String>> sections = new LinkedHashMap<>();
    for (String section : Files.readString(PLACE).split("\n## ")) {
      int headEnd = section.indexOf('\n');
      String name = nameOf(section.substring(0, headEnd));
      if (!name.isEmpty()) {
        sections.put(name, sentences(section.substring(headEnd + 1)));
      }
    }
    return sections;
  }

  private static String nameOf(String head) {
    if (head.startsWith("Promise ")) {
      return "promise" + head.substring(8, head.indexOf(':'));
    }
    return head.equals("Terms") ? "terms" : head.equals("What it is") ? "calls" : "";
  }

  /** Parts a text at its semicolons and full stops ("0 .. 2" has none). */
  static List<String> sentences(String text) {
    String plain = text.replace("```text", "").replace("```", "").replaceAll("\\s+", " ").strip();
    plain = plain.replaceFirst("^`[^`]*`: ", "");
    List<String> sentences = new ArrayList<>();
    for (String sentence : plain.split("(?<!\\.)[.;] ")) {
      String bare = sentence.replaceAll("^[ .;()]+|[ .;()]+$", "");
      if (!bare.isEmpty() && !bare.startsWith("====")) {
        sentences.add(bare);
      }
    }
    return sentences;
  }
}
