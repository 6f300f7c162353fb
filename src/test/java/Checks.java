/** Counts and prints answers that are not the ones that are due. */
final class Checks {
  private int asked;
  private int wrong;
  private int asKnown = -1;
  private String sentence = "";

  /** The answers that follow are due by this sentence, which stands in the document word by word. */
  void says(String words) {
    endSentence();
    sentence = words;
    holds("the document says this", Doc.has(words));
    asKnown = asked;
  }

  /** A sentence without an answer of its own would be no test. */
  private void endSentence() {
    if (asked == asKnown) {
      holds("an answer is due by this", false);
    }
    asKnown = -1;
  }

  void due(String call, long got, long want) {
    asked++;
    if (got != want) {
      wrong++;
      System.out.println(call + " answered " + got + ", due is " + want + (sentence.isEmpty() ? "" : ", by: " + sentence));
    }
  }

  void holds(String what, boolean so) {
    due(what, so ? 1 : 0, 1);
  }

  int wrong() {
    return wrong;
  }

  void end() {
    endSentence();
    System.out.println(asked + " answers, " + wrong + " of them not as due");
    if (wrong != 0 || asked == 0) {
      System.exit(1);
    }
  }

  static int feed(MusicBox x, String text) {
    int last = 0;
    for (char letter : text.toCharArray()) {
      last = x.feed(letter);
    }
    return last;
  }

  static int read(MusicBox x, String text) {
    feed(x, text);
    return x.box();
  }

  static MusicBox boxOf(String text) {
    MusicBox x = new MusicBox();
    if (read(x, text) < 0) {
      throw new IllegalStateException("not a box: " + text);
    }
    return x;
  }

  static void fill(MusicBox x, int row, int lane, int... items) {
    x.row(row, lane, items.length);
    for (int i = 0; i < items.length; i++) {
      x.set(row, i, items[i]);
    }
  }
}
