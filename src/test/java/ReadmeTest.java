import java.io.IOException;
import java.nio.file.DirectoryStream;
import java.nio.file.Files;
import java.nio.file.Path;
import java.util.regex.Matcher;
import java.util.regex.Pattern;

/** README's example is run line by line, each answer as told there; each test is named in README. */
public final class ReadmeTest {
  private static final Pattern EXAMPLE = Pattern.compile("(?s)```java\n(.*?)```");
  private static final String MADE = "NoManMaySail ship = new NoManMaySail();";
  private static final Pattern CALL =
      Pattern.compile("ship\\.(\\w+)\\(([^)]*)\\); +// (-?\\d+|throws\\.\\w+)(?::.*)?");
  private static final Check check = new Check();

  public static void main(String[] args) throws IOException {
    String text = Files.readString(Path.of("README.md"));
    Matcher example = EXAMPLE.matcher(text);
    check.holds("there is an example", example.find());
    run(example.group(1).split("\n"));
    check.holds("there is one example alone", !example.find());
    named(text);
    check.end("ReadmeTest");
  }

  private static void run(String[] lines) {
    NoManMaySail ship = new NoManMaySail();
    check.holds("the example makes the object first", lines[0].equals(MADE));
    for (int i = 1; i < lines.length; i++) {
      Matcher call = CALL.matcher(lines[i]);
      check.holds("a call with its answer: " + lines[i], call.matches());
      check.due(lines[i], Calls.answer(ship, call.group(1), numbers(call.group(2))), Calls.due(call.group(3)));
    }
  }

  private static int[] numbers(String arguments) {
    if (arguments.isEmpty()) {
      return new int[0];
    }
    String[] words = arguments.split(", ");
    int[] numbers = new int[words.length];
    for (int i = 0; i < numbers.length; i++) {
      numbers[i] = words[i].startsWith("'") ? words[i].charAt(1) : Integer.parseInt(words[i]);
    }
    return numbers;
  }

  private static void named(String text) throws IOException {
    try (DirectoryStream<Path> tests = Files.newDirectoryStream(Path.of("src/test/java"), "*Test.java")) {
      for (Path test : tests) {
        String name = test.getFileName().toString().replace(".java", "");
        check.holds("README names " + name, text.contains("`" + name + "`"));
      }
    }
    check.holds("README tells how all tests are run", text.contains("    .ci/run\n"));
  }
}
