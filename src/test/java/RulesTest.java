import java.io.IOException;
import java.nio.file.Files;
import java.nio.file.Path;
import java.util.HashSet;
import java.util.Map;
import java.util.Set;
import java.util.TreeMap;
import java.util.TreeSet;
import java.util.regex.Matcher;
import java.util.regex.Pattern;

/** Rules 8, 11 and 12 of LANGUAGE.md, as far as the text of the methods tells: which of them call which, and what they make. */
public final class RulesTest {
  private static final int DEEPEST = 8;
  /** Those that call themselves, or one another; each carries its depth as a number. */
  private static final Set<String> RECURSIVE = Set.of("outcome", "weightOfRinging", "answer", "body");
  private static final Pattern METHOD = Pattern.compile("(?ms)^( {4}| {8})(?:public |private |static )*(?:int|long|boolean|void) (\\w+)\\([^)]*\\) \\{\n(.*?)^\\1\\}");
  private static final Pattern NAME = Pattern.compile("(?<!new )\\b(\\w+)\\(");
  private static final Pattern DECLARED = Pattern.compile("(?m)^(?: {4}| {8})(?:public |private |static )*(?:int|long|boolean|void) \\w+\\(");
  private static final Checks CHECKS = new Checks();

  private final Map<String, String> bodies = new TreeMap<>();
  private final Map<String, Set<String>> calls = new TreeMap<>();

  public static void main(String[] args) throws IOException {
    RulesTest test = new RulesTest();
    test.read(Files.readString(Path.of("src/main/java/MusicBox.java")).replaceAll("(?s)/\\*.*?\\*/", "").replaceAll("//[^\n]*", ""));
    test.noneMakesAnObject();
    test.onlyThoseToldCallThemselves();
    test.noneGoesTooDeep();
    CHECKS.end();
  }

  /** Calls are known by their names alone, so no two methods may bear the same one. */
  private void read(String code) {
    Matcher method = METHOD.matcher(code);
    while (method.find()) {
      CHECKS.holds("one method has the name " + method.group(2), bodies.put(method.group(2), method.group(3)) == null);
    }
    CHECKS.due("methods found", bodies.size(), DECLARED.matcher(code).results().count());
    for (Map.Entry<String, String> one : bodies.entrySet()) {
      Set<String> called = new TreeSet<>();
      Matcher name = NAME.matcher(one.getValue());
      while (name.find()) {
        if (!Set.of("if", "for", "while", "switch").contains(name.group(1))) {
          called.add(name.group(1));
        }
      }
      calls.put(one.getKey(), called);
    }
  }

  private void noneMakesAnObject() {
    for (Map.Entry<String, String> one : bodies.entrySet()) {
      CHECKS.holds(one.getKey() + " makes no object", !Pattern.compile("\\bnew\\b|clone|copyOf").matcher(one.getValue()).find());
    }
  }

  private void onlyThoseToldCallThemselves() {
    for (String name : bodies.keySet()) {
      Set<String> reached = new HashSet<>();
      reach(name, reached);
      CHECKS.due(name + " calls itself", reached.contains(name) ? 1 : 0, RECURSIVE.contains(name) ? 1 : 0);
    }
  }

  private void reach(String name, Set<String> reached) {
    for (String next : calls.getOrDefault(name, Set.of())) {
      if (reached.add(next)) {
        reach(next, reached);
      }
    }
  }

  private void noneGoesTooDeep() {
    for (String name : bodies.keySet()) {
      CHECKS.holds(name + " goes eight deep at most", deep(name, new HashSet<>()) <= DEEPEST);
    }
  }

  /** A call of the library counts as one level, a call of one that stands open already as none. */
  private int deep(String name, Set<String> open) {
    int most = 0;
    open.add(name);
    for (String next : calls.getOrDefault(name, Set.of())) {
      if (!open.contains(next)) {
        most = Math.max(most, deep(next, open));
      }
    }
    open.remove(name);
    return most + 1;
  }
}
