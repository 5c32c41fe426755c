import java.io.IOException;
import java.net.URL;
import java.net.URLClassLoader;
import java.nio.file.Files;
import java.nio.file.Path;
import java.util.ArrayList;
import java.util.Comparator;
import java.util.LinkedHashMap;
import java.util.List;
import java.util.Map;
import java.util.regex.MatchResult;
import java.util.regex.Matcher;
import java.util.regex.Pattern;
import java.util.stream.Stream;
import javax.tools.ToolProvider;

/** README.md: its example answers what it says, its tables tell all calls and all tests, its commands run. */
final class ReadmeTest {
  private static final Path HERE = Path.of("").toAbsolutePath();
  private static final Path TESTS = Path.of("src", "test", "java");
  private static final Pattern EXAMPLE_LINE = Pattern.compile("(?:int (\\w+) = )?(x\\..*\\));\\s+// (-?\\d+)(?:: .*)?");
  private static final Pattern REFUSAL = Pattern.compile("(?<![\\d-])-[1-6](?!\\d)");

  private final Due due = new Due("ReadmeTest");
  private final String readme;
  private final Path room;

  private ReadmeTest(Path room) throws IOException {
    this.room = room;
    readme = Files.readString(Path.of("README.md"));
  }

  private void holds(String told, boolean is) {
    due.is(told, is ? 1 : 0, 1);
  }

  /** Blocks of one language, in order. */
  private List<String> blocks(String language) {
    List<String> blocks = new ArrayList<>();
    Matcher found = Pattern.compile("```" + language + "\n(.*?)```", Pattern.DOTALL).matcher(readme);
    while (found.find()) {
      blocks.add(found.group(1));
    }
    return blocks;
  }

  /** Cells of the rows of the table whose first line begins so. */
  private List<String[]> table(String head) {
    List<String[]> rows = new ArrayList<>();
    int start = readme.indexOf("\n| " + head + " |");
    holds("a table of each " + head, start >= 0);
    for (String line : readme.substring(start + 1).split("\n")) {
      if (!line.startsWith("|")) {
        break;
      }
      String[] cells = line.split("\\|", -1);
      if (cells[1].contains("`")) {
        rows.add(cells);
      }
    }
    return rows;
  }

  private static String numbersIn(String text) {
    StringBuilder numbers = new StringBuilder();
    REFUSAL.matcher(text).results().map(MatchResult::group).forEach(number -> numbers.append(number).append(' '));
    return numbers.toString().strip();
  }

  /** REFUSALS by call, in the order in which the document tells them. */
  private static Map<String, String> refusalsTold() throws IOException {
    Map<String, String> told = new LinkedHashMap<>();
    String doc = Files.readString(Path.of("..", "shared", "DOC.md"));
    Matcher promise = Pattern.compile("`int (\\w+)\\((.*?)\\)`: (.*)").matcher(doc);
    while (promise.find()) {
      String call = promise.group(1) + "(" + promise.group(2).replaceAll("\\w+ (\\w+)", "$1") + ")";
      told.put(call, numbersIn(promise.group(3).replace("REFUSALS -1 .. -6", "")));
    }
    return told;
  }

  private void tellsEveryCall() throws IOException {
    Map<String, String> told = refusalsTold();
    due.is("calls of the document", told.size(), 36);
    List<String[]> rows = table("call");
    due.is("calls in the table", rows.size(), told.size());
    for (String[] row : rows) {
      String call = row[1].replace("`", "").strip();
      holds(call + " is a call", told.containsKey(call));
      holds(call + " has REFUSALS " + told.get(call) + " in this order", row[3].strip().equals(told.get(call)));
    }
  }

  private void tellsEveryTest() throws IOException {
    List<String> told = new ArrayList<>();
    for (String[] row : table("test")) {
      String test = row[1].replace("`", "").strip();
      told.add(test + ".java");
      holds(test + " is there", Files.exists(TESTS.resolve(test + ".java")));
    }
    try (Stream<Path> files = Files.list(TESTS)) {
      for (Path file : files.map(Path::getFileName).toList()) {
        String name = file.toString();
        holds(name + " is told", !name.endsWith("Test.java") || told.contains(name));
      }
    }
  }

  /** The example as a program that ends with how many of its calls answered something else. */
  private String exampleProgram(String example) {
    StringBuilder program = new StringBuilder("public class Example { public static int wrong() { int wrong = 0;\n");
    String[] lines = example.strip().split("\n");
    program.append(lines[0]).append('\n');
    for (int i = 1; i < lines.length; i++) {
      Matcher line = EXAMPLE_LINE.matcher(lines[i]);
      holds("a call and its answer: " + lines[i], line.matches());
      String name = line.group(1) == null ? "got" + i : line.group(1);
      program.append("int ").append(name).append(" = ").append(line.group(2)).append(";\n");
      program.append("if (").append(name).append(" != ").append(line.group(3)).append(") { wrong++; ");
      program.append("System.out.println(\"README, line ").append(i + 1).append(" of the example: \" + ");
      program.append(name).append("); }\n");
    }
    return program.append("return wrong; } }\n").toString();
  }

  private void exampleHolds() throws Exception {
    List<String> examples = blocks("java");
    due.is("examples", examples.size(), 1);
    Path source = Files.writeString(room.resolve("Example.java"), exampleProgram(examples.get(0)));
    String face = HERE.resolve(Path.of("src", "main", "java", "KeptAnswers.java")).toString();
    int compiled = ToolProvider.getSystemJavaCompiler()
        .run(null, null, null, "-d", room.toString(), source.toString(), face);
    due.is("the example compiles", compiled, 0);
    try (URLClassLoader loader = new URLClassLoader(new URL[] {room.toUri().toURL()}, null)) {
      Object wrong = loader.loadClass("Example").getMethod("wrong").invoke(null);
      due.is("answers of the example that are others", (Integer) wrong, 0);
    }
  }

  private static void copy(Path from, Path to) throws IOException {
    try (Stream<Path> all = Files.walk(from)) {
      for (Path path : all.toList()) {
        Path target = to.resolve(from.relativize(path).toString());
        Files.createDirectories(Files.isDirectory(path) ? target : target.getParent());
        if (Files.isRegularFile(path)) {
          Files.copy(path, target);
        }
      }
    }
  }

  /** Commands are run beside a copy of ../shared, in a copy of this folder, as they would be by a reader. */
  private void commandsRun() throws Exception {
    List<String> commands = blocks("sh");
    due.is("blocks of commands", commands.size(), 2);
    due.is("how all tests are run", commands.get(0).compareTo(".ci/run\n"), 0);
    holds(".ci/run is there to be run", Files.isExecutable(Path.of(".ci", "run")));
    Path project = Files.createDirectories(room.resolve("main"));
    copy(HERE.resolve("src"), project.resolve("src"));
    copy(HERE.resolveSibling("shared"), room.resolve("shared"));
    Path answers = room.resolve("answers");
    Process run = new ProcessBuilder("sh", "-e", "-c", commands.get(1)).directory(project.toFile())
        .redirectErrorStream(true).redirectOutput(answers.toFile()).start();
    due.is("commands end", run.waitFor(), 0);
    String said = Files.readString(answers);
    due.is("lines that they say", said.lines().count(), commands.get(1).lines().count() - 1);
    holds("that all is as due: " + said, said.lines().allMatch(line -> line.endsWith(" 0 not as due")
        || line.equals("all answers are as due")));
  }

  private static void drop(Path room) throws IOException {
    try (Stream<Path> all = Files.walk(room)) {
      for (Path path : all.sorted(Comparator.reverseOrder()).toList()) {
        Files.delete(path);
      }
    }
  }

  public static void main(String[] args) throws Exception {
    Path room = Files.createTempDirectory("readme");
    ReadmeTest test = new ReadmeTest(room);
    try {
      test.tellsEveryCall();
      test.tellsEveryTest();
      test.exampleHolds();
      test.commandsRun();
    } finally {
      drop(room);
    }
    test.due.close();
  }
}
