import java.io.IOException;
import java.lang.reflect.Method;
import java.lang.reflect.Modifier;
import java.nio.file.Files;
import java.nio.file.Path;
import java.util.Arrays;
import java.util.List;
import java.util.Map;
import java.util.regex.Matcher;
import java.util.regex.Pattern;
import java.util.stream.Stream;

/** README.md: its rows of code answer what it says behind them, and it names every call and every test. */
public final class ReadmeTest {
  private static final Pattern CODE = Pattern.compile("(?s)```java\n(.*?)```");
  private static final Pattern FEED = Pattern.compile("for \\(char letter : \"([^\"]*)\"\\.toCharArray\\(\\)\\) x\\.feed\\(letter\\);");
  private static final Pattern CALL = Pattern.compile("x\\.(\\w+)\\(([-\\d, ]*)\\); *// (-?\\d+|[A-Z]+)(:.*)?");
  private static final Pattern SILENT = Pattern.compile("|//.*|MusicBox x = new MusicBox\\(\\);");
  private static final Map<String, Integer> NAMES = Map.of("NONE", MusicBox.NONE, "BAD", MusicBox.BAD, "STATE", MusicBox.STATE, "FULL", MusicBox.FULL);
  private static final Checks CHECKS = new Checks();

  public static void main(String[] args) throws IOException, ReflectiveOperationException {
    String readme = Files.readString(Path.of("README.md"));
    Matcher code = CODE.matcher(readme);
    boolean shown = false;
    while (code.find()) {
      shown = true;
      MusicBox x = new MusicBox();
      for (String row : code.group(1).split("\n")) {
        answersAsSaid(x, row.trim());
      }
    }
    CHECKS.holds("README.md shows how the class is used", shown);
    namesCalls(readme);
    namesTests(readme);
    namesNumbers(readme);
    CHECKS.end();
  }

  private static void answersAsSaid(MusicBox x, String row) throws ReflectiveOperationException {
    Matcher feed = FEED.matcher(row);
    Matcher call = CALL.matcher(row);
    if (feed.matches()) {
      CHECKS.due(row, Checks.feed(x, feed.group(1)), feed.group(1).length());
    } else if (call.matches()) {
      CHECKS.due(row, answer(x, call.group(1), call.group(2)), said(call.group(3)));
    } else {
      CHECKS.holds("a row that can be read: " + row, SILENT.matcher(row).matches());
    }
  }

  private static long said(String answer) {
    return NAMES.containsKey(answer) ? NAMES.get(answer) : Long.parseLong(answer);
  }

  private static long answer(MusicBox x, String name, String numbers) throws ReflectiveOperationException {
    Object[] given = numbers.isEmpty() ? new Object[0] : Arrays.stream(numbers.split(", ")).map(Integer::valueOf).toArray();
    Class<?>[] types = new Class<?>[given.length];
    Arrays.fill(types, int.class);
    return ((Number) MusicBox.class.getMethod(name, types).invoke(x, given)).longValue();
  }

  /** Each call stands there with as many numbers as it takes. */
  private static void namesCalls(String readme) {
    for (Method call : MusicBox.class.getDeclaredMethods()) {
      if (Modifier.isPublic(call.getModifiers())) {
        int many = call.getParameterCount();
        String numbers = many == 0 ? "" : "\\w+" + ", \\w+".repeat(many - 1);
        CHECKS.holds("README.md names " + call.getName(), Pattern.compile("`" + call.getName() + "\\(" + numbers + "\\)`").matcher(readme).find());
      }
    }
  }

  private static void namesTests(String readme) throws IOException {
    CHECKS.holds("README.md says how tests are run", readme.contains("`.ci/run`"));
    try (Stream<Path> files = Files.list(Path.of("src/test/java"))) {
      List<String> names = files.map(f -> f.getFileName().toString().replace(".java", "")).sorted().toList();
      for (String name : names) {
        CHECKS.holds("README.md names " + name, readme.contains("`" + name));
      }
    }
  }

  private static void namesNumbers(String readme) {
    NAMES.forEach((name, number) -> CHECKS.holds("README.md tells " + name, readme.contains("`" + name + "` " + number + " ")));
  }
}
