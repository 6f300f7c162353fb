import java.io.IOException;
import java.io.UncheckedIOException;
import java.nio.file.Files;
import java.nio.file.Path;
import java.util.ArrayList;
import java.util.BitSet;
import java.util.HashSet;
import java.util.List;
import java.util.Set;

/** The words of the document, and which of them were quoted. */
final class Doc {
  /** Headings and fences, which say nothing. */
  private static final String MARKS = "## Promise \\d+: (A new object|\\w+)|```text|```|={8} \\d|Ahead of the calls .*? the interface says: -{4} [\\w ]+\\.";
  private static final String WORDS = read();
  private static final BitSet QUOTED = new BitSet();
  private static final Set<Integer> PROMISES = new HashSet<>();

  private Doc() {
  }

  private static String read() {
    try {
      return plain(Files.readString(Path.of("../shared/DOC.md")));
    } catch (IOException e) {
      throw new UncheckedIOException(e);
    }
  }

  private static String plain(String text) {
    return text.replaceAll("\\s+", " ");
  }

  static boolean has(String words) {
    String sought = plain(words);
    int at = WORDS.indexOf(sought);
    if (at >= 0) {
      PROMISES.add(promiseAt(at));
      QUOTED.set(at, at + sought.length());
    }
    return at >= 0;
  }

  /** The number of the promise that stands at this place; 0 for the parts ahead of them. */
  private static int promiseAt(int place) {
    int begun = WORDS.lastIndexOf("## Promise ", place);
    if (begun < 0) {
      return 0;
    }
    int number = begun + "## Promise ".length();
    return Integer.parseInt(WORDS.substring(number, WORDS.indexOf(':', number)));
  }

  static boolean wasQuoted(int promise) {
    return PROMISES.contains(promise);
  }

  /** What stands from the terms on to the last promise and was not quoted, piece by piece. */
  static List<String> unquoted() {
    StringBuilder left = new StringBuilder();
    int end = WORDS.indexOf("## Not promised");
    for (int i = WORDS.indexOf("## Terms") + "## Terms".length(); i < end; i++) {
      left.append(QUOTED.get(i) ? '\n' : WORDS.charAt(i));
    }
    List<String> pieces = new ArrayList<>();
    for (String piece : left.toString().split("\n+")) {
      String words = piece.replaceAll(MARKS, " ").replaceAll("[ .;:,()]+", " ").trim();
      if (!words.isEmpty()) {
        pieces.add(words);
      }
    }
    return pieces;
  }
}
