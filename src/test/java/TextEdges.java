/** The text of a box at its edges: rooms, numbers, bytes, ends; and each text that is one byte away from a good one. */
final class TextEdges {
  private static final int STATE = -1000002, FULL = -1000003;
  private static final String LAW = "m9,0;", FOUR = "p0;p0;p0;p0;", TWELVE = FOUR + FOUR + FOUR, SIX = "s1;d2;t3;r4;c5;s6;";

  private final Checks c;

  TextEdges(Checks c) {
    this.c = c;
  }

  void all() {
    tape();
    tokens();
    laws();
    columns();
    teeth();
    newBoxes();
    faultsInOrder();
    ends();
    faultNumber();
    oneByteAway(LAW + FOUR + "s1;");
    oneByteAway("m99,3;p63;p1;p02;p3;p4;p5;p6;p7;p8;p9;p10;p11;s9;d1;t2;r03;c4;s5;");
  }

  private void good(String text, int teeth) {
    MusicBox x = new MusicBox();
    c.due("box() of " + text, Checks.read(x, text), teeth);
    c.due("fault() of " + text, x.fault(), 0);
  }

  private void fault(String text, int place, int number) {
    MusicBox x = new MusicBox();
    c.due("box() of " + text, Checks.read(x, text), -1000100 - place);
    c.due("fault() of " + text, x.fault(), number);
    c.due("no box by " + text, x.stand(0), STATE);
    faultBehindABox(text, place, number);
  }

  /** What was read before must not do for what is missing in this text. */
  private void faultBehindABox(String text, int place, int number) {
    MusicBox x = Checks.boxOf("m8,1;" + TWELVE + SIX);
    c.due("box() behind another, of " + text, Checks.read(x, text), -1000100 - place);
    c.due("fault() behind another, of " + text, x.fault(), number);
    c.due("the other stays: SPRING, behind " + text, x.stand(2), 8);
    c.due("the other stays: COLUMNS, behind " + text, x.stand(0), 12);
  }

  // ---- the tape

  private void tape() {
    c.says("TEXTS: THE TAPE has at most 100 bytes, that come one by one;");
    MusicBox x = new MusicBox();
    for (int i = 1; i <= 100; i++) {
      c.due("byte " + i, x.feed(i + 155), i);
    }
    c.due("one more", x.feed('m'), FULL);
    c.due("and again", x.feed('m'), FULL);
    c.due("bytes", x.count(7), 100);
    c.says("`int box()`: The tape, empty then, is read: how many TEETH there are.");
    c.due("a full one", x.box(), -1000100);
    c.due("is empty", x.count(7), 0);
    c.due("an empty one", x.box(), -1000100);
    c.due("takes bytes again", x.feed('m'), 1);
    x.box();
    c.due("a box", Checks.read(x, LAW + FOUR + SIX), 6);
    c.due("is empty behind a box, too", x.count(7), 0);
    c.due("an empty one is no box", x.box(), -1000100);
    c.due("the box stays", x.count(1), 6);
    String longest = "m09,00;" + "p00;p00;p00;p00;p00;p00;p00;p00;p00;p00;p00;p00;" + "s01;s01;s01;s01;s01;s01;";
    c.due("the longest", Checks.read(x, longest), 6);
    c.due("the longest, and all 100", Checks.read(x, longest + "s".repeat(21)), -1000179);
    c.due("whose first byte behind it is a tooth too many", x.fault(), 3);
  }

  // ---- tokens

  private void tokens() {
    c.says("TOKENS: letters a to z (each by itself), NUMBERS (figures, 2 at most), SIGNS , and ; nothing else.");
    for (int b = 0; b < 256; b++) {
      char letter = (char) b;
      if (letter != 'm') {
        fault(letter + "9,0;" + FOUR + "s1;", 0, 1);
      }
      if ("sdtrcp".indexOf(letter) < 0) {
        fault(LAW + FOUR + letter + "1;", 17, 1);
      }
      if (letter < '0' || letter > '9') {
        fault("m" + letter + ",0;" + FOUR + "s1;", 1, 1);
      }
    }
    for (char sort : "sdtrc".toCharArray()) {
      good(LAW + FOUR + sort + "1;", 1);
    }
    fault("m9/0;", 2, 1);
    fault("m9:0;", 2, 1);
    fault("m 9,0;", 1, 1);
    fault("mm9,0;", 1, 1);
    fault("m9,,0;", 3, 1);
    fault("m9,0;;", 5, 1);
    good("m09,03;p00;p01;p02;p63;s09;", 1);
    c.says("a run of three figures, at its first");
    fault("m100,0;", 1, 1);
    fault("m000,0;", 1, 1);
    fault("m9,000;", 3, 1);
    fault(LAW + "p063;", 6, 1);
    fault(LAW + FOUR + "s001;", 18, 1);
    fault("m1234,0;", 1, 1);
    fault("m123456789012345678901234567890,0;", 1, 1);
    fault("m123", 1, 1);
    fault("123", 0, 1);
  }

  // ---- rooms and numbers

  private void laws() {
    c.says("law: m SPRING , COLUMN ; (0 to 99; 0 to 3).");
    for (int spring : new int[] {0, 1, 98, 99}) {
      MusicBox x = Checks.boxOf("m" + spring + ",0;" + FOUR + "s1;");
      c.due("SPRING", x.stand(2), spring);
      c.due("SPRING by count", x.count(4), spring);
    }
    for (int column = 0; column <= 3; column++) {
      c.due("COLUMN", Checks.boxOf("m9," + column + ";" + FOUR + "s1;").stand(1), column);
    }
    fault("m9,4;" + FOUR + "s1;", 3, 2);
    fault("m9,4;" + TWELVE + "s1;", 3, 2);
    fault("m9,11;" + TWELVE + "s1;", 3, 2);
    fault("m9,99;" + TWELVE + "s1;", 3, 2);
    fault(LAW + LAW, 5, 1);
  }

  private void columns() {
    c.says("column: p PINS ; (0 to 63: bits of TEETH, also of such as there are not; COLUMNS 0 .. 11, 4 to 12).");
    for (int pins : new int[] {0, 1, 62, 63}) {
      MusicBox x = Checks.boxOf(LAW + "p0;p" + pins + ";p0;p0;s1;");
      c.due("PINS as told", x.pins(1), pins);
      x.ticks(1);
      c.due("only a tooth that there is takes of the spring", x.stand(2), 8 - pins % 2);
    }
    fault(LAW + "p64;p0;p0;p0;s1;", 6, 2);
    fault(LAW + "p0;p0;p0;p99;s1;", 15, 2);
    String columns = "";
    for (int many = 0; many <= 13; many++) {
      if (many < 4) {
        fault(LAW + columns + "s1;", 5 + 3 * many, 1);
        fault(LAW + columns, 5 + 3 * many, 1);
      } else if (many <= 12) {
        good(LAW + columns + "s1;", 1);
        c.due("COLUMNS", Checks.boxOf(LAW + columns + "s1;").stand(0), many);
      } else {
        fault(LAW + columns + "s1;", 5 + 36, 3);
      }
      columns += "p0;";
    }
  }

  private void teeth() {
    c.says("tooth: SORT TUNED ; (SORT: s steel, d a damped one, t a twin, r a reed, c a cracked one; 1 to 9; TEETH 0 .. 5, 6 at most).");
    for (int tuned : new int[] {1, 2, 8, 9}) {
      c.due("TUNED", Checks.boxOf(LAW + FOUR + "s" + tuned + ";").tooth(0, 0), tuned);
    }
    fault(LAW + FOUR + "s0;", 18, 2);
    fault(LAW + FOUR + "s00;", 18, 2);
    fault(LAW + FOUR + "s10;", 18, 2);
    fault(LAW + FOUR + "s99;", 18, 2);
    fault(LAW + FOUR + "s1;c0;", 21, 2);
    for (int many = 1; many <= 6; many++) {
      good(LAW + FOUR + SIX.substring(0, 3 * many), many);
    }
    for (char sort : "sdtrc".toCharArray()) {
      fault(LAW + FOUR + SIX + sort + "1;", 35, 3);
    }
    good(LAW + TWELVE + SIX, 6);
    MusicBox x = Checks.boxOf(LAW + FOUR + SIX);
    for (int t = 0; t < 6; t++) {
      c.due("TUNED of " + t, x.tooth(t, 0), t + 1);
      c.due("KIND of " + t, x.kind(t), t % 5 + 1);
    }
  }

  private void newBoxes() {
    c.says("TICK 0, THE DRUM is at COLUMN, no TOOTH RINGS, none is BROKEN, none was PLUCKED; no ACT can be undone.");
    MusicBox x = Checks.boxOf("m90,0;p3;p3;p3;p3;c9;s9;");
    x.ticks(3);
    c.due("it rings ahead", x.stand(4), 3);
    c.due("it is broken ahead", x.stand(5), 1);
    c.due("a box of fewer columns, teeth", Checks.read(x, "m8,2;p1;p1;p1;p1;c2;"), 1);
    c.due("TICK", x.count(3), 0);
    c.due("THE DRUM", x.stand(1), 2);
    c.due("RINGS", x.stand(3) + x.stand(4) + x.tooth(0, 1), 0);
    c.due("BROKEN", x.stand(5) + x.tooth(0, 3), 0);
    c.due("PLUCKED", x.count(5) + x.tooth(0, 2), 0);
    c.due("ACTS", x.count(6), 0);
    c.due("undo()", x.undo(), STATE);
    c.due("the other tooth is gone", x.tooth(1, 0), -1000001);
    Checks.read(x, "m8,2;" + TWELVE + SIX);
    c.due("of more columns, teeth: PLUCKED", x.count(5), 0);
    c.due("RINGS, of more", x.stand(4), 0);
    c.due("PINS, of more", x.pins(11), 0);
  }

  // ---- faults

  private void faultsInOrder() {
    c.says("FAULTS, the first TOKEN that has one (its first byte), of one TOKEN the least");
    fault("m9,4;p64;p0;p0;p0;s0;", 3, 2);
    fault(LAW + "p64;p0;x", 6, 2);
    fault(LAW + "p0;p0;xp64;", 11, 1);
    fault(LAW + TWELVE + "p99;", 41, 3);
    fault(LAW + FOUR + SIX + "s99;", 35, 3);
    fault(LAW + FOUR + SIX + "sss", 35, 3);
    fault(LAW + "99", 5, 1);
    fault(LAW + FOUR + "99", 17, 1);
    c.says("1 it cannot stand there, or is none");
    fault("p0;", 0, 1);
    fault("m;", 1, 1);
    fault("m9;", 2, 1);
    fault("m9,;", 3, 1);
    fault("m9,0,", 4, 1);
    fault(LAW + ",", 5, 1);
    fault(LAW + "pp", 6, 1);
    fault(LAW + "p0,", 7, 1);
    fault(LAW + FOUR + "ss", 18, 1);
    fault(LAW + FOUR + "s1,", 19, 1);
    fault(LAW + FOUR + "s1;p0;", 20, 1);
    fault(LAW + FOUR + SIX + "p0;", 35, 1);
    fault(LAW + FOUR + SIX + "m", 35, 1);
    fault(LAW + FOUR + SIX + "1", 35, 1);
    fault(LAW + FOUR + SIX + " ", 35, 1);
    c.says("2 a NUMBER that is not as told");
    fault("m9,4", 3, 2);
    fault(LAW + "p64", 6, 2);
    fault(LAW + FOUR + "s0", 18, 2);
    c.says("3 a column, a tooth more than there is room for (its letter).");
    fault(LAW + TWELVE + "p", 41, 3);
    fault(LAW + FOUR + SIX + "s", 35, 3);
  }

  private void ends() {
    c.says("the end: how many bytes there are");
    String text = "m99,3;p63;p0;p0;p0;s1;d2;";
    for (int length = 0; length < text.length(); length++) {
      String cut = text.substring(0, length);
      if (cut.endsWith("s1;")) {
        good(cut, 1);
      } else {
        fault(cut, length, 1);
      }
    }
    good(text, 2);
  }

  private void faultNumber() {
    c.says("`int fault()`: The number of the latest FAULT; 0 before one.");
    MusicBox x = new MusicBox();
    c.due("before one", x.fault(), 0);
    Checks.read(x, LAW + FOUR + "s1;");
    c.due("behind a box", x.fault(), 0);
    Checks.read(x, "m9,4;");
    c.due("2", x.fault(), 2);
    Checks.read(x, LAW + TWELVE + "p0;");
    c.due("3", x.fault(), 3);
    x.box();
    c.due("1", x.fault(), 1);
    Checks.read(x, "m9,4;");
    Checks.read(x, LAW + FOUR + "s1;");
    c.due("the latest, behind a box", x.fault(), 2);
  }

  // ---- held against the second telling

  private void oneByteAway(String text) {
    c.says("box: law column column column column { column } tooth { tooth }.");
    for (int at = 0; at <= text.length(); at++) {
      String ahead = text.substring(0, at), behind = text.substring(at);
      for (int b = 0; b < 256; b++) {
        asPlain(ahead + (char) b + behind);
        if (!behind.isEmpty()) {
          asPlain(ahead + (char) b + behind.substring(1));
        }
      }
      asPlain(ahead);
      if (!behind.isEmpty()) {
        asPlain(ahead + behind.substring(1));
      }
    }
  }

  private void asPlain(String text) {
    MusicBox x = new MusicBox();
    PlainBox y = new PlainBox();
    Checks.feed(x, text);
    for (char letter : text.toCharArray()) {
      y.feed(letter);
    }
    c.due("box() of " + text, x.box(), y.box());
    c.due("fault() of " + text, x.fault(), y.fault());
  }
}
