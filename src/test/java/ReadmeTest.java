import java.nio.charset.StandardCharsets;
import java.nio.file.Files;
import java.nio.file.Paths;
import java.util.regex.Matcher;
import java.util.regex.Pattern;

/** Makes the calls that README.md shows, in their order, and holds the answers against those told there. */
public final class ReadmeTest {
  private static final Pattern CALL = Pattern.compile("oak\\.(\\w+)\\(([-\\d, ]*)\\); +// (-?\\d+): .*");
  private static final Pattern TEXT = Pattern.compile("String text = \"([^\"]*)\";");
  private static final Dues D = new Dues();

  public static void main(String[] args) throws Exception {
    String readme = new String(Files.readAllBytes(Paths.get("README.md")), StandardCharsets.UTF_8);
    String shown = readme.substring(readme.indexOf("```java") + 7);
    D.scene("README.md");
    VotesOnTree oak = new VotesOnTree();
    for (String line : shown.substring(0, shown.indexOf("```")).split("\n")) {
      Matcher call = CALL.matcher(line);
      Matcher text = TEXT.matcher(line);
      if (call.matches()) {
        D.due(line, answer(oak, call.group(1), call.group(2)), Long.parseLong(call.group(3)));
      } else if (text.matches()) {
        feed(oak, text.group(1));
      } else {
        boolean frame = line.isEmpty() || line.startsWith("VotesOnTree oak = new") || line.startsWith("for (");
        D.due("a line that is no call: " + line, frame ? 1 : 0, 1);
      }
    }
    D.end();
  }

  private static void feed(VotesOnTree oak, String text) {
    for (int i = 0; i < text.length(); i++) {
      oak.feed(text.charAt(i));
    }
  }

  private static long answer(VotesOnTree oak, String name, String told) throws Exception {
    String[] numbers = told.isEmpty() ? new String[0] : told.split(", ");
    Class<?>[] types = new Class<?>[numbers.length];
    Object[] args = new Object[numbers.length];
    for (int i = 0; i < numbers.length; i++) {
      types[i] = int.class;
      args[i] = Integer.parseInt(numbers[i]);
    }
    return ((Number) VotesOnTree.class.getMethod(name, types).invoke(oak, args)).longValue();
  }
}
