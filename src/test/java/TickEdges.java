/** Rows, the tick and the acts at the edges that the document names, sentence by sentence. */
final class TickEdges {
  private static final int BAD = -1000001, STATE = -1000002, FULL = -1000003;
  private static final int NULL = -1000011, PLACE = -1000012;

  private final Checks c;

  TickEdges(Checks c) {
    this.c = c;
  }

  void all() {
    noBox();
    missingRows();
    items();
    lanes();
    rowsInPlace();
    places();
    copies();
    drops();
    fading();
    ringing();
    turning();
    plucking();
    pluckedOften();
    twins();
    reeds();
    cracked();
    ticksAtTheEnd();
    actsKept();
    actsUndone();
    winding();
    pinning();
    drum();
    mending();
    seen();
    images();
  }

  private static MusicBox of(String text) {
    return Checks.boxOf(text);
  }

  private void rings(String what, MusicBox x, int... due) {
    for (int t = 0; t < due.length; t++) {
      c.due(what + ", tooth " + t, x.tooth(t, 1), due[t]);
    }
  }

  // ---- 1

  private void noBox() {
    c.says("`MusicBox()`: No BOX.");
    MusicBox x = new MusicBox();
    c.due("stand(0)", x.stand(0), STATE);
    c.due("image(0)", x.image(0), STATE);
    for (int what = 0; what < 8; what++) {
      c.due("count(" + what + ")", x.count(what), 0);
    }
    c.due("no act", x.undo(), STATE);
    c.due("no image", x.restore(1), STATE);
    c.due("no trace", x.trace(0), -1000000);
  }

  private void missingRows() {
    c.says("ROWS 0 .. 7 are missing (at first)");
    for (int r = 0; r < 8; r++) {
      c.due("row " + r, new MusicBox().set(r, 0, 0), NULL);
      c.due("row " + r + " cannot be dropped", new MusicBox().drop(r), NULL);
    }
  }

  private void items() {
    c.says("or have a LANE (0 bytes, 1 shorts, 2 ints) and 0 to 40 ITEMS, 0 at first.");
    MusicBox x = of("m0,0;p0;p1;p1;p1;s1;");
    for (int lane = 0; lane < 3; lane++) {
      c.due("none", x.row(0, lane, 0), 0);
      c.due("none: no first", x.set(0, 0, 0), PLACE);
      c.due("40", x.row(0, lane, 40), 40);
      for (int i = 0; i < 40; i += 13) {
        c.due("item " + i + " is 0", x.tune(0, i, 1), 1);
      }
      c.due("the last", x.set(0, 39, 1), 1);
      c.due("behind the last", x.set(0, 40, 1), PLACE);
    }
    c.due("eight rows", x.row(7, 0, 1) + x.count(0), 3);
  }

  private void lanes() {
    c.says("ITEM i becomes v, its lowest bits, as many as the LANE has: what it is then.");
    MusicBox x = new MusicBox();
    int[][] bytes = {{127, 127}, {128, -128}, {255, -1}, {256, 0}, {-128, -128}, {-129, 127}, {Integer.MAX_VALUE, -1}, {Integer.MIN_VALUE, 0}};
    int[][] shorts = {{32767, 32767}, {32768, -32768}, {65535, -1}, {65536, 0}, {-32768, -32768}, {-32769, 32767}, {Integer.MIN_VALUE, 0}};
    int[][] ints = {{Integer.MAX_VALUE, Integer.MAX_VALUE}, {Integer.MIN_VALUE, Integer.MIN_VALUE}, {-1, -1}, {65536, 65536}};
    int[][][] lanes = {bytes, shorts, ints};
    for (int lane = 0; lane < 3; lane++) {
      x.row(lane, lane, 1);
      for (int[] pair : lanes[lane]) {
        c.due("set(" + pair[0] + ") in lane " + lane, x.set(lane, 0, pair[0]), pair[1]);
      }
    }
    MusicBox y = of("m0,0;p0;p1;p1;p1;s1;");
    y.row(0, 0, 1);
    y.set(0, 0, 256);
    c.due("it is 0, not only answered so", y.tune(0, 0, 1), 1);
  }

  private void rowsInPlace() {
    c.says("A ROW of a LANE with n ITEMS, in place of what is there: n.");
    MusicBox x = of("m0,0;p0;p1;p1;p1;s1;");
    Checks.fill(x, 0, 0, 1, 1, 1);
    x.row(0, 1, 2);
    c.due("items are 0", x.tune(0, 0, 1), 1);
    c.due("there are two", x.set(0, 2, 0), PLACE);
    c.due("the lane is another", x.set(0, 1, 255), 255);
    c.due("it is one row", x.count(0), 1);
    x.row(0, 1, 3);
    c.due("items are 0 in what is longer, too", x.tune(0, 1, 1), 1);
    c.due("none in place of some", x.row(0, 0, 0), 0);
    c.due("is there yet", x.count(0), 1);
  }

  private void places() {
    c.says("2 PLACE (no such place of a ROW)");
    MusicBox x = of("m9,0;p0;p0;p0;p0;s1;");
    x.row(0, 0, 12);
    for (int i : new int[] {-1, 12, Integer.MIN_VALUE, Integer.MAX_VALUE}) {
      c.due("set(0, " + i + ", 0)", x.set(0, i, 0), PLACE);
      c.due("tune(0, " + i + ", 1)", x.tune(0, i, 1), PLACE);
      c.due("who(0, 0, 0, " + i + ", 1)", x.who(0, 0, 0, i, 1), PLACE);
    }
    c.due("tune: the last", x.tune(0, 11, 1), 15);
    c.due("tune: one behind the last", x.tune(0, 11, 2), PLACE);
    c.due("tune: all", x.tune(0, 0, 12), 15);
    c.due("tune: all, from 1 on", x.tune(0, 1, 12), PLACE);
    c.due("who: the last", x.who(0, 0, 0, 11, 1), 62);
    c.due("who: one behind the last", x.who(0, 0, 0, 11, 2), PLACE);
    c.due("who: all", x.who(0, 0, 0, 0, 12), 62);
    c.due("who: all, from 1 on", x.who(0, 0, 0, 1, 12), PLACE);
    c.due("who: far away", x.who(0, 0, 0, Integer.MAX_VALUE, 12), PLACE);
    x.row(1, 0, 0);
    c.due("tune: of no items", x.tune(1, 0, 1), PLACE);
    c.due("who: of no items", x.who(0, 0, 1, 0, 1), PLACE);
  }

  private void copies() {
    c.says("PLACE (i, j, n below 0, or beyond an end).");
    MusicBox x = new MusicBox();
    x.row(0, 2, 40);
    x.row(1, 2, 3);
    x.row(2, 2, 0);
    c.due("all", x.copy(0, 0, 0, 0, 40), 40);
    c.due("all of the shorter", x.copy(1, 0, 0, 37, 3), 3);
    c.due("to the shorter", x.copy(0, 37, 1, 0, 3), 3);
    c.due("none, behind the last of both", x.copy(0, 40, 1, 3, 0), 0);
    c.due("none of none", x.copy(2, 0, 2, 0, 0), 0);
    c.due("i beyond, though none", x.copy(0, 41, 1, 0, 0), PLACE);
    c.due("j beyond, though none", x.copy(0, 0, 1, 4, 0), PLACE);
    c.due("one of none", x.copy(2, 0, 1, 0, 1), PLACE);
    c.due("one to none", x.copy(1, 0, 2, 0, 1), PLACE);
    c.due("beyond the end of a", x.copy(1, 1, 0, 0, 3), PLACE);
    c.due("beyond the end of b", x.copy(0, 0, 1, 1, 3), PLACE);
    c.due("i below 0", x.copy(0, -1, 1, 0, 1), PLACE);
    c.due("j below 0", x.copy(0, 0, 1, -1, 1), PLACE);
    c.due("n below 0", x.copy(0, 1, 1, 1, -1), PLACE);
    c.due("i and n, a sum that wraps", x.copy(0, Integer.MAX_VALUE, 0, 0, 1), PLACE);
    c.due("j and n, a sum that wraps", x.copy(0, 0, 0, 1, Integer.MAX_VALUE), PLACE);
    c.due("least numbers", x.copy(0, Integer.MIN_VALUE, 0, Integer.MIN_VALUE, Integer.MIN_VALUE), PLACE);

    c.says("n ITEMS of a from i on come to b from j on, as they were ahead: n.");
    MusicBox y = of("m0,0;p0;p1;p2;p3;s1;s1;");
    Checks.fill(y, 0, 0, 0, 1, 2, 3);
    y.copy(0, 0, 0, 1, 3);
    c.due("forwards onto itself: 0 0 1 2", y.tune(0, 1, 3), 1);
    c.due("the first stays", y.tune(0, 0, 1), 1);
    Checks.fill(y, 0, 0, 0, 1, 2, 3);
    y.copy(0, 1, 0, 0, 3);
    c.due("backwards onto itself: 1 2 3 3", y.tune(0, 0, 3), 2);
    c.due("the last stays", y.tune(0, 3, 1), 8);
    Checks.fill(y, 1, 0, 3, 3);
    y.copy(0, 0, 1, 0, 0);
    c.due("none: nothing comes", y.tune(1, 0, 1), 8);
  }

  private void drops() {
    c.says("A ROW is missing from now on: how many ITEMS it had.");
    MusicBox x = new MusicBox();
    x.row(0, 0, 0);
    x.row(7, 0, 40);
    c.due("none", x.drop(0), 0);
    c.due("40", x.drop(7), 40);
    c.due("again", x.drop(7), NULL);
    c.due("missing for set", x.set(7, 0, 0), NULL);
    c.due("missing for copy", x.copy(7, 0, 7, 0, 0), NULL);
    c.due("rows", x.count(0), 0);
    c.due("it can be there again", x.row(7, 2, 1), 1);
    c.due("in its new lane", x.set(7, 0, 1 << 20), 1 << 20);
  }

  // ---- 2, the tick

  private void fading() {
    c.says("A TICK: 1 what RINGS (each TOOTH by a number) fades: of steel it is 2 less (0 at least), of a twin so, too;");
    MusicBox x = of("m5,0;p0;p1;p0;p0;t3;s9;");
    x.ticks(1);
    rings("stirred by 3", x, 6, 3);
    x.ticks(1);
    rings("2 less", x, 4, 1);
    x.ticks(1);
    rings("0 at least", x, 2, 0);
    x.ticks(1);
    rings("0 from 2", x, 0, 0);
    x.ticks(1);
    c.due("never below", x.stand(3), 0);
    x = of("m9,0;p0;p1;p0;p0;t1;t9;");
    x.ticks(1);
    rings("a twin, stirred by 1", x, 2, 1);
    c.due("both 0, not below", x.ticks(1), 0);
    c.says("of a damped one it is 0;");
    x = of("m9,0;p0;p1;p0;p0;t9;d1;");
    x.ticks(1);
    rings("stirred by 9", x, 18, 9);
    x.ticks(1);
    rings("at once", x, 16, 0);
    c.says("of a reed 1 less (0 at least);");
    x = of("m3,0;p0;p1;p0;p0;r2;");
    for (int due : new int[] {2, 1, 0, 0}) {
      c.due("1 less", x.ticks(1), due);
    }
    c.says("of a cracked one half (cut).");
    x = of("m3,0;p0;p1;p0;p0;c7;");
    for (int due : new int[] {7, 3, 1, 0, 0}) {
      c.due("half", x.ticks(1), due);
    }
  }

  private void ringing() {
    c.says("and RINGS: steel by twice TUNED; a damped one by TUNED;");
    for (int tuned : new int[] {1, 9}) {
      c.due("steel", of("m9,0;p0;p1;p0;p0;s" + tuned + ";").ticks(1), 2 * tuned);
      c.due("damped", of("m9,0;p0;p1;p0;p0;d" + tuned + ";").ticks(1), tuned);
    }
    MusicBox x = of("m99,0;p1;p1;p1;p1;s9;");
    c.due("plucked anew it rings no more than that", x.ticks(4), 18);
    c.says("Numbers go from 0 on.");
    x = of("m9,3;p1;p0;p0;p32;s1;s1;s1;s1;s1;s9;");
    c.due("tooth 0 in column 0", x.ticks(1), 2);
    x.drum(2);
    x.ticks(1);
    c.due("tooth 5 in column 3", x.tooth(5, 1), 18);
    c.says("Sets are bits.");
    c.due("teeth that ring", x.stand(4), 32);
    c.due("columns", x.tooth(5, 4), 8);
  }

  private void turning() {
    c.says("2 If SPRING is above 0, THE DRUM turns to the next COLUMN (0 behind the last), SPRING is 1 less;");
    MusicBox x = of("m4,2;p0;p0;p0;p0;s1;");
    for (int due : new int[] {3, 0, 1, 2, 2, 2}) {
      x.ticks(1);
      c.due("COLUMN", x.stand(1), due);
    }
    c.due("SPRING is not below 0", x.stand(2), 0);
    c.due("TICK is more all the same", x.count(3), 6);
    x = of("m99,3;p0;p0;p0;p0;p0;p0;p0;p0;p0;p0;p0;p0;s1;");
    x.ticks(8);
    c.due("the last of 12", x.stand(1), 11);
    x.ticks(1);
    c.due("0 behind it", x.stand(1), 0);
    x = of("m0,0;p1;p1;p1;p1;s1;");
    c.due("with the spring down none is plucked", x.ticks(24) + x.count(5), 0);
  }

  private void plucking() {
    c.says("is PLUCKED, if SPRING is above 0 yet (SPRING is 1 less by each)");
    int[] loud = {0, 0, 2, 6, 12, 20, 30, 42, 42};
    int[] spring = {0, 0, 0, 0, 0, 0, 0, 0, 1};
    for (int m = 0; m < loud.length; m++) {
      MusicBox x = of("m" + m + ",0;p0;p63;p0;p0;s1;s2;s3;s4;s5;s6;");
      c.due("LOUD with a spring of " + m, x.ticks(1), loud[m]);
      c.due("SPRING", x.stand(2), spring[m]);
      c.due("PLUCKED", x.count(5), Math.max(0, Math.min(6, m - 1)));
      c.due("the drum", x.stand(1), m == 0 ? 0 : 1);
    }
    c.says("then each TOOTH, by numbers, that has a PIN in this COLUMN and is not BROKEN");
    MusicBox x = of("m3,0;p0;p6;p0;p0;s1;s2;s3;s4;");
    x.ticks(1);
    rings("by pins", x, 0, 4, 6, 0);
    x = of("m90,3;p1;p1;p1;p1;c9;");
    x.ticks(3);
    c.due("the spring ahead", x.stand(2), 84);
    x.ticks(2);
    c.due("a broken one takes none of it", x.stand(2), 82);
  }

  private void pluckedOften() {
    c.says("it has been PLUCKED once more (99 at most)");
    MusicBox x = of("m99,0;p1;p1;p1;p1;s1;");
    for (int i = 0; i < 4; i++) {
      x.ticks(24);
      x.wind(99);
    }
    c.due("96", x.tooth(0, 2), 96);
    for (int due : new int[] {97, 98, 99, 99, 99}) {
      x.ticks(1);
      c.due("PLUCKED", x.tooth(0, 2), due);
      c.due("it rings all the same", x.stand(3), 2);
    }
    c.due("the spring is less by each all the same", x.stand(2), 89);
    c.due("of all together", x.count(5), 99);
    c.due("AHEAD, too", x.ahead(0, 9, 1), 99);
    c.due("AHEAD it rings", x.ahead(0, 9, 0), 2);
    c.due("a pluck of DAYS counts", x.drawn(1, 1, 0), 1);
    for (int due : new int[] {99, 99, 98}) {
      x.undo();
      c.due("undone", x.tooth(0, 2), due);
    }
  }

  private void twins() {
    c.says("a twin as steel, and the TOOTH of the next number, if there is one that is not BROKEN, RINGS by TUNED of the twin, "
        + "if it did by less;");
    MusicBox x = of("m90,0;p0;p2;p1;p1;t4;s3;");
    x.ticks(1);
    rings("steel", x, 0, 6);
    x.ticks(1);
    rings("it rang by 4: as much, it stays", x, 8, 4);
    x.ticks(1);
    rings("it rang by 2: less", x, 8, 4);
    x = of("m90,0;p0;p2;p1;p0;t3;s3;");
    x.ticks(2);
    rings("it rang by 4: more, it stays", x, 6, 4);
    x = of("m90,0;p0;p32;p0;p0;s1;s1;s1;s1;s1;t9;");
    c.due("no next one", x.ticks(1), 18);
    rings("not the first, either", x, 0, 0, 0, 0, 0, 18);
    x = of("m90,0;p0;p1;p0;p0;t9;t5;s1;");
    x.ticks(1);
    rings("one that is stirred does not stir", x, 18, 9, 0);
    c.due("nor is it plucked", x.count(5), 1);
    x = of("m90,0;p0;p3;p0;p0;t9;d1;");
    x.ticks(1);
    rings("one that is plucked behind it rings by its own", x, 18, 1);
    x = of("m90,0;p2;p2;p2;p1;t9;c1;");
    x.drum(3);
    x.ticks(3);
    x.ticks(1);
    rings("a broken one is not stirred", x, 18, 4);
    x.mend(1);
    x.drum(2);
    x.ticks(1);
    rings("a mended one is", x, 18, 9);
  }

  private void reeds() {
    c.says("a reed by TUNED and a tenth of SPRING (cut; as it is behind that 1 less), together;");
    int[][] due = {{2, 1}, {3, 1}, {11, 1}, {12, 2}, {21, 2}, {22, 3}, {91, 9}, {92, 10}, {99, 10}};
    for (int[] pair : due) {
      c.due("a reed by a spring of " + pair[0], of("m" + pair[0] + ",0;p0;p1;p0;p0;r1;").ticks(1), pair[1]);
      c.due("a cracked one as a reed", of("m" + pair[0] + ",0;p0;p1;p0;p0;c1;").ticks(1), pair[1]);
    }
    MusicBox x = of("m13,0;p0;p3;p0;p0;r1;r1;");
    x.ticks(1);
    rings("each behind its own 1 less: 11, 10", x, 2, 2);
    x = of("m12,0;p0;p3;p0;p0;r1;r1;");
    x.ticks(1);
    rings("10, 9", x, 2, 1);
  }

  private void cracked() {
    c.says("a cracked one as a reed, and it is BROKEN, if it has been PLUCKED three times or more (it RINGS yet).");
    MusicBox x = of("m90,0;p1;p1;p1;p1;c9;");
    for (int plucked = 1; plucked <= 4; plucked++) {
      x.ticks(1);
      c.due("PLUCKED", x.tooth(0, 2), Math.min(3, plucked));
      c.due("BROKEN", x.tooth(0, 3), plucked >= 3 ? 1 : 0);
      c.due("RINGS", x.tooth(0, 1), plucked <= 3 ? 17 : 8);
    }
    x = of("m99,0;p1;p1;p1;p1;s1;");
    x.ticks(4);
    Checks.fill(x, 0, 0, 9, 4);
    c.due("four plucks of steel: if it is a cracked one, the fifth breaks it", x.who(0, 0, 0, 0, 2), 1 << 5);
  }

  private void ticksAtTheEnd() {
    c.says("TICK is 1 more.");
    MusicBox y = of("m1,0;p0;p0;p0;p0;s1;");
    y.ticks(1);
    c.due("with a spring", y.count(3), 1);
    y.ticks(1);
    c.due("without one", y.count(3), 2);
    y.ticks(24);
    c.due("24 more", y.count(3), 26);
    c.says("FULL: TICK would be above 999.");
    MusicBox x = of("m0,0;p0;p0;p0;p0;s1;");
    for (int i = 0; i < 41; i++) {
      x.ticks(24);
    }
    c.due("984", x.count(3), 984);
    c.due("16 more would be 1000", x.ticks(16), FULL);
    c.due("15 more are 999", x.ticks(15), 0);
    c.due("TICK", x.count(3), 999);
    c.due("1 more", x.ticks(1), FULL);
    c.due("24 more", x.ticks(24), FULL);
    c.due("foretold from there: HEARD", x.heard(60, 0), 0);
    c.due("foretold from there: DAYS", x.drawn(60, 30, 0), of("m0,0;p0;p0;p0;p0;s1;").drawn(60, 30, 0));
    c.due("other acts are done", x.wind(1), 1);
    x.undo();
    x.undo();
    c.due("1 undone: there is room", x.ticks(1), 0);
    Checks.read(x, "m0,0;p0;p0;p0;p0;s1;");
    c.due("a new box begins at 0", x.ticks(24) + x.count(3), 24);
  }

  // ---- 2, the acts

  private void actsKept() {
    c.says("ACTS (24 at most are kept, of more the oldest is forgotten; each can be undone, the latest first): a TICK;");
    MusicBox x = of("m99,0;p0;p0;p0;p0;s1;");
    x.ticks(24);
    c.due("24", x.count(6), 24);
    undoAll(x, 24);
    c.due("TICK", x.count(3), 0);
    x.wind(1);
    x.ticks(24);
    c.due("25 were", x.count(6), 24);
    undoAll(x, 24);
    c.due("TICK is 0 again", x.count(3), 0);
    x = of("m90,0;p0;p0;p0;p0;s1;");
    x.wind(5);
    x.ticks(24);
    undoAll(x, 24);
    c.due("the winding, as the oldest, is forgotten", x.stand(2), 95);
    for (int i = 0; i < 30; i++) {
      x.pin(0, 0);
    }
    c.due("30 pins", x.count(6), 24);
    x.undo();
    c.due("one undone, one more done", x.wind(1) * 100 + x.count(6), 9624);
    c.due("undo", x.undo(), 23);
    c.due("undo, the pin", x.undo(), 22);
  }

  private void undoAll(MusicBox x, int many) {
    for (int left = many - 1; left >= 0; left--) {
      c.due("undo()", x.undo(), left);
    }
    c.due("undo() of none", x.undo(), STATE);
  }

  private void actsUndone() {
    c.says("`int undo()`: The latest ACT is undone: how many can be undone yet.");
    MusicBox x = of("m90,0;p3;p3;p3;p3;c9;t9;");
    x.ticks(2);
    int loud = x.stand(3);
    x.ticks(1);
    x.mend(0);
    x.drum(1);
    x.pin(1, 1);
    x.pin(1, 1);
    x.wind(99);
    c.due("the winding", x.undo(), 7);
    c.due("SPRING", x.stand(2), 81);
    c.due("the pin that was set again", x.undo(), 6);
    c.due("PINS", x.pins(1), 1);
    c.due("the pin that was drawn", x.undo(), 5);
    c.due("PINS again", x.pins(1), 3);
    c.due("the drum", x.undo(), 4);
    c.due("COLUMN", x.stand(1), 3);
    c.due("the mending", x.undo(), 3);
    c.due("BROKEN", x.stand(5), 1);
    c.due("PLUCKED", x.tooth(0, 2), 3);
    c.due("RINGS", x.tooth(0, 1), 17);
    c.due("a tick", x.undo(), 2);
    c.due("LOUD", x.stand(3), loud);
    c.due("BROKEN no more", x.stand(5), 0);
    c.due("TICK", x.count(3), 2);
    c.due("SPRING then", x.stand(2), 84);
    c.due("COLUMN then", x.stand(1), 2);
  }

  private void winding() {
    c.says("it is wound (SPRING is more, 99 at most)");
    MusicBox x = of("m97,0;p0;p0;p0;p0;s1;");
    c.due("98", x.wind(1), 98);
    c.due("99", x.wind(1), 99);
    c.due("99 at most", x.wind(1), 99);
    c.due("acts", x.count(6), 3);
    c.due("99 undone", x.undo() + x.stand(2), 101);
    c.due("98 undone", x.undo() + x.stand(2), 99);
    c.due("by 99 from 0", of("m0,0;p0;p0;p0;p0;s1;").wind(99), 99);
    c.due("by 99 from 99", of("m99,0;p0;p0;p0;p0;s1;").wind(99), 99);
    x = of("m0,0;p0;p1;p0;p0;s1;");
    x.ticks(3);
    x.wind(2);
    c.due("the drum goes on from where it stood", x.ticks(1), 2);
  }

  private void pinning() {
    c.says("a PIN is set, where there is none, or drawn;");
    MusicBox x = of("m9,0;p0;p0;p0;p0;p0;p0;p0;p0;p0;p0;p0;p32;s1;s1;s1;s1;s1;s1;");
    c.due("the last, drawn", x.pin(11, 5), 0);
    c.due("the last, set", x.pin(11, 5), 32);
    c.due("the first", x.pin(0, 0), 1);
    c.due("beside it", x.pin(0, 5), 33);
    c.due("an act each", x.count(6), 4);
    c.says("BAD: a TOOTH that there is not, too.");
    x = of("m9,0;p0;p62;p0;p0;s1;");
    for (int tooth = 1; tooth < 6; tooth++) {
      c.due("a pin of none is not drawn", x.pin(1, tooth), BAD);
      c.due("nor set", x.pin(0, tooth), BAD);
    }
    c.due("PINS", x.pins(1), 62);
    c.due("beside those of none", x.pin(1, 0), 63);
  }

  private void drum() {
    c.says("THE DRUM is set to another COLUMN;");
    MusicBox x = of("m9,0;p1;p0;p0;p0;p0;p0;p0;p0;p0;p0;p0;p0;s1;");
    c.due("it is there", x.drum(0), STATE);
    c.due("to the last", x.drum(11), 0);
    c.due("it is there, too", x.drum(11), STATE);
    c.due("no act by a refusal", x.count(6), 1);
    c.due("none is plucked by it", x.count(5), 0);
    c.due("no spring is taken", x.stand(2), 9);
    c.due("0 is next", x.ticks(1), 2);
  }

  private void mending() {
    c.says("a TOOTH is mended (not BROKEN, PLUCKED 0, it RINGS by 0).");
    MusicBox x = of("m90,0;p1;p1;p1;p1;c9;");
    c.due("new", x.mend(0), STATE);
    x.ticks(2);
    c.due("plucked twice", x.mend(0), STATE);
    x.ticks(1);
    c.due("three times", x.mend(0), 3);
    c.due("BROKEN", x.tooth(0, 3), 0);
    c.due("PLUCKED", x.tooth(0, 2), 0);
    c.due("RINGS", x.tooth(0, 1), 0);
    c.due("again", x.mend(0), STATE);
    c.due("acts", x.count(6), 4);
    x.ticks(2);
    c.due("not broken by two more", x.stand(5), 0);
    x.ticks(1);
    c.due("broken by three more", x.stand(5), 1);
  }

  private void seen() {
    c.says("4 COLUMNS in which it has a PIN (bits)");
    MusicBox x = of("m9,0;p63;p1;p0;p0;p0;p0;p0;p0;p0;p0;p32;p33;s1;s1;s1;s1;s1;s1;");
    c.due("the first tooth", x.tooth(0, 4), 1 + 2 + (1 << 11));
    c.due("the last tooth", x.tooth(5, 4), 1 + (1 << 10) + (1 << 11));
    c.due("one between", x.tooth(2, 4), 1);
    c.says("`int pins(int column)`: PINS of a COLUMN (as told, bits).");
    x = of("m9,0;p63;p62;p0;p1;s1;");
    c.due("also of teeth that there are not", x.pins(0), 63);
    c.due("only of such", x.pins(1), 62);
    c.due("none", x.pins(2), 0);
    c.says("LOUD is what all TEETH RING by, together.");
    x = of("m8,0;p0;p63;p0;p0;s9;s9;s9;s9;s9;s9;");
    c.due("as loud as can be by steel", x.ticks(1), 108);
    c.due("LOUD", x.stand(3), 108);
    c.due("TEETH that RING", x.stand(4), 63);
    c.due("2 each", x.ticks(8), 12);
    c.due("TEETH that RING yet", x.stand(4), 63);
    c.due("0 each", x.ticks(1), 0);
    c.due("TEETH that RING no more", x.stand(4), 0);
  }

  private void images() {
    c.says("An IMAGE (0, 1) is kept of the BOX: 1.");
    MusicBox x = of("m90,0;p1;p1;p1;p1;c9;");
    x.ticks(1);
    c.due("0", x.image(0), 1);
    c.due("1 is not kept by that", x.restore(1), STATE);
    x.ticks(1);
    c.due("1", x.image(1), 1);
    x.ticks(1);
    c.due("an act is none of it", x.count(6), 3);
    c.due("another in place of it", x.image(0), 1);
    c.due("restored", x.restore(1), 1);
    c.due("TICK of 1", x.count(3), 2);
    x.restore(0);
    c.due("TICK of 0", x.count(3), 3);
    c.says("The BOX is as an IMAGE kept it (no ACT can be undone then): 1.");
    c.due("BROKEN", x.stand(5), 1);
    c.due("SPRING", x.stand(2), 84);
    x.ticks(1);
    c.due("an act can", x.count(6), 1);
    x.restore(0);
    c.due("no act", x.count(6), 0);
    c.due("undo()", x.undo(), STATE);
    x.pin(0, 0);
    x.mend(0);
    x.restore(0);
    c.due("the image is not changed by what is done", x.pins(0) + x.stand(5), 2);
    Checks.read(x, "m1,1;p0;p0;p0;p0;s1;s1;");
    c.due("an image outlasts its box", x.restore(1), 1);
    c.due("with its teeth", x.count(1), 1);
    Checks.read(x, "m");
    c.due("and a fault", x.restore(0), 1);
  }
}
