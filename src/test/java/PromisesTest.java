/** Each promise by hand-worked answers: ordinary calls, the edges that the document names, wrong numbers. */
public final class PromisesTest {
  private static final int NONE = -1000000, BAD = -1000001, STATE = -1000002, FULL = -1000003;
  private static final int NULL = -1000011, PLACE = -1000012, KIND = -1000013, SIZE = -1000014, STORE = -1000015;

  /** Steel 5, damped 4, reed 3; behind ticks 1 to 12 loud is 10 12 10 7 12 13 9 6 11 12 9 6, the spring 0 behind 11. */
  private static final String PLAIN = "m20,0;p0;p1;p2;p4;s5;d4;r3;";
  private static final int[] PLAIN_LOUD = {10, 12, 10, 7, 12, 13, 9, 6, 11, 12, 9, 6};

  /** One cracked tooth, plucked by each tick: 9+8, half of it never heard; broken behind the third. */
  private static final String CRACKED = "m90,0;p1;p1;p1;p1;c9;";

  private static final String EMPTY = "m9,0;p0;p0;p0;p0;";
  private static final String ONE_OF_EACH = "m60,0;p0;p31;p0;p0;s4;d5;t6;r7;c8;";

  private final Checks c = new Checks();

  public static void main(String[] args) {
    PromisesTest t = new PromisesTest();
    t.newObject();
    t.rows();
    t.copies();
    t.tape();
    t.faults();
    t.undone();
    t.fading();
    t.plucking();
    t.ticks();
    t.winding();
    t.pinning();
    t.drumAndMend();
    t.looking();
    t.foretold();
    t.best();
    t.tunes();
    t.setsAndShares();
    t.turns();
    t.who();
    t.lost();
    t.drawn();
    t.images();
    t.asks();
    t.counts();
    t.status();
    t.c.end();
  }

  private static MusicBox of(String text) {
    return Checks.boxOf(text);
  }

  // ---- promise 1

  private void newObject() {
    MusicBox x = new MusicBox();
    for (int what = 0; what < 8; what++) {
      c.due("1 count(" + what + ")", x.count(what), 0);
    }
    c.due("1 stand(0)", x.stand(0), STATE);
    c.due("1 status()", x.status(), 0);
    c.due("1 fault()", x.fault(), 0);
    c.due("1 trace(0)", x.trace(0), NONE);
    c.due("1 NONE", MusicBox.NONE, NONE);
    c.due("1 BAD", MusicBox.BAD, BAD);
    c.due("1 STATE", MusicBox.STATE, STATE);
    c.due("1 FULL", MusicBox.FULL, FULL);
  }

  // ---- promises 2, 3, 5

  private void rows() {
    MusicBox x = new MusicBox();
    c.due("2 row, most items", x.row(7, 2, 40), 40);
    c.due("2 row, no items", x.row(0, 0, 0), 0);
    c.due("2 row 8", x.row(8, 0, 1), BAD);
    c.due("2 row -1", x.row(-1, 0, 1), BAD);
    c.due("2 lane 3", x.row(0, 3, 1), BAD);
    c.due("2 lane -1", x.row(0, -1, 1), BAD);
    c.due("2 41 items", x.row(0, 0, 41), BAD);
    c.due("2 fewer than none", x.row(0, 0, -1), SIZE);
    c.due("2 least number", x.row(0, 0, Integer.MIN_VALUE), SIZE);
    c.due("2 BAD ahead of SIZE", x.row(8, 0, -1), BAD);
    c.due("2 a refused row stays", x.set(0, 0, 1), PLACE);

    x.row(1, 0, 2);
    c.due("3 byte", x.set(1, 0, 200), -56);
    c.due("3 byte, last", x.set(1, 1, 0x17F), 127);
    c.due("3 beyond the end", x.set(1, 2, 1), PLACE);
    c.due("3 ahead of the first", x.set(1, -1, 1), PLACE);
    c.due("3 missing", x.set(2, 0, 1), NULL);
    c.due("3 no such row", x.set(8, 0, 1), BAD);
    x.row(1, 1, 1);
    c.due("3 short", x.set(1, 0, 40000), -25536);
    x.row(1, 2, 1);
    c.due("3 int", x.set(1, 0, Integer.MIN_VALUE), Integer.MIN_VALUE);

    c.due("5 drop", x.drop(7), 40);
    c.due("5 dropped already", x.drop(7), NULL);
    c.due("5 no such row", x.drop(8), BAD);
    c.due("5 a dropped row is missing", x.set(7, 0, 1), NULL);
    c.due("5 rows", x.count(0), 2);
    rowsAreNew();
  }

  private void rowsAreNew() {
    MusicBox x = of("m0,0;p3;p0;p0;p0;s1;s1;");
    Checks.fill(x, 0, 0, 3);
    c.due("2 set ahead", x.tune(0, 0, 1), 1);
    x.row(0, 0, 1);
    c.due("2 items are 0 at first", x.tune(0, 0, 1), 14);
    x.set(0, 0, 3);
    x.drop(0);
    x.row(0, 0, 1);
    c.due("2 and behind a drop", x.tune(0, 0, 1), 14);
  }

  // ---- promise 4

  private void copies() {
    MusicBox x = of("m0,0;p1;p2;p3;p0;s1;s1;");
    Checks.fill(x, 0, 0, 1, 2, 3, 0);
    c.due("4 onto itself", x.copy(0, 0, 0, 1, 3), 3);
    c.due("4 as they were: 1", x.tune(0, 1, 3), 1);
    c.due("4 as they were: the first", x.tune(0, 0, 1), 1);
    Checks.fill(x, 1, 0, 0, 0);
    c.due("4 to another", x.copy(0, 2, 1, 0, 2), 2);
    c.due("4 is there", x.tune(1, 0, 2), 2);
    c.due("4 none at the end", x.copy(0, 4, 1, 2, 0), 0);
    c.due("4 beyond the end of a", x.copy(0, 3, 1, 0, 2), PLACE);
    c.due("4 beyond the end of b", x.copy(0, 0, 1, 1, 2), PLACE);
    c.due("4 n below 0", x.copy(0, 0, 1, 0, -1), PLACE);
    c.due("4 i below 0", x.copy(0, -1, 1, 0, 1), PLACE);
    c.due("4 j below 0", x.copy(0, 0, 1, -1, 1), PLACE);
    c.due("4 great numbers", x.copy(0, Integer.MAX_VALUE, 1, 0, Integer.MAX_VALUE), PLACE);
    c.due("4 missing", x.copy(0, 0, 2, 0, 9), NULL);
    c.due("4 missing, the other", x.copy(2, 0, 0, 0, 9), NULL);
    x.row(3, 1, 1);
    c.due("4 two lanes", x.copy(0, 0, 3, 0, 9), STORE);
    c.due("4 no such row", x.copy(8, 0, 0, 0, 0), BAD);
    c.due("4 no such other row", x.copy(0, 0, -1, 0, 0), BAD);
  }

  // ---- promises 6, 7

  private void tape() {
    MusicBox x = new MusicBox();
    c.due("6 the first", x.feed(0), 1);
    c.due("6 the greatest", x.feed(255), 2);
    c.due("6 too great", x.feed(256), BAD);
    c.due("6 too small", x.feed(-1), BAD);
    for (int i = 3; i <= 100; i++) {
      c.due("6 byte " + i, x.feed('a'), i);
    }
    c.due("6 full", x.feed('a'), FULL);
    c.due("6 BAD ahead of FULL", x.feed(256), BAD);
    c.due("6 bytes", x.count(7), 100);
    c.due("7 no token", x.box(), -1000100);
    c.due("7 the tape is empty", x.count(7), 0);
    c.due("7 a box", Checks.read(x, PLAIN), 3);
    c.due("7 the tape is empty then, too", x.count(7), 0);
    c.due("8 the latest fault stays", x.fault(), 1);

    c.due("7 leading noughts", Checks.read(x, "m09,03;p00;p01;p0;p63;s09;"), 1);
    c.due("7 spring", x.stand(2), 9);
    c.due("7 column", x.stand(1), 3);
    c.due("7 pins of teeth that there are not", x.pins(3), 63);
    x.ticks(2);
    x.wind(1);
    c.due("7 a fault leaves all", Checks.read(x, "m"), -1000101);
    c.due("7 ticks stay", x.count(3), 2);
    c.due("7 acts stay", x.count(6), 3);
    c.due("7 anew", Checks.read(x, PLAIN), 3);
    c.due("7 tick 0", x.count(3), 0);
    c.due("7 nothing to undo", x.undo(), STATE);
    c.due("7 none rings", x.stand(4), 0);
    c.due("7 none was plucked", x.count(5), 0);
    x = of(CRACKED);
    x.ticks(3);
    c.due("7 broken", x.stand(5), 1);
    Checks.read(x, CRACKED);
    c.due("7 whole in the next box", x.stand(5), 0);
    c.due("7 silent in the next box", x.stand(3), 0);
  }

  // ---- promises 7, 8

  private void fault(String text, int place, int number) {
    MusicBox x = new MusicBox();
    c.due("7 box() of " + text, Checks.read(x, text), -1000100 - place);
    c.due("8 fault() of " + text, x.fault(), number);
    c.due("7 no box by " + text, x.stand(0), STATE);
  }

  private void faults() {
    String law = "m9,0;", columns = "p0;p0;p0;p0;", box = law + columns + "s1;";
    fault("", 0, 1);
    fault("p0;", 0, 1);
    fault("M9", 0, 1);
    fault("9", 0, 1);
    fault("mm", 1, 1);
    fault("m999,0;", 1, 1);
    fault("m1234", 1, 1);
    fault("m9;", 2, 1);
    fault("m9 ,0;", 2, 1);
    fault("m9,", 3, 1);
    fault("m9,4;", 3, 2);
    fault("m9,99;", 3, 2);
    fault("m9,000;", 3, 1);
    fault("m9,0,", 4, 1);
    fault(law, 5, 1);
    fault(law + "s1;", 5, 1);
    fault(law + "x", 5, 1);
    fault(law + "p;", 6, 1);
    fault(law + "p64;", 6, 2);
    fault(law + "p064;", 6, 1);
    fault(law + "p64,", 6, 2);
    fault(law + "p0,", 7, 1);
    fault(law + "p0;p0;p0;s1;", 14, 1);
    fault(law + columns, 17, 1);
    fault(law + columns + "m", 17, 1);
    fault(law + columns + ";", 17, 1);
    fault(law + columns + "s", 18, 1);
    fault(law + columns + "s0;", 18, 2);
    fault(law + columns + "s10;", 18, 2);
    fault(law + columns + "s1", 19, 1);
    fault(box + "p0;", 20, 1);
    fault(box + ";", 20, 1);
    fault(box + "\u00ff", 20, 1);
    fault(box + "s1;s1;s1;s1;s1;c1;", 35, 3);
    fault(box + "s1;s1;s1;s1;s1;p1;", 35, 1);
    fault(box + "s1;s1;s1;s1;s1;x1;", 35, 1);
    fault(box + "s1;s1;s1;s1;s1;s", 35, 3);
    fault(law + columns + columns + columns + "p0;", 41, 3);
    fault(law + columns + columns + columns + "x0;", 41, 1);
    fault(law + columns + columns + columns + "s1;p0;", 44, 1);
    c.due("7 most columns, most teeth", of(law + columns + columns + columns + "s1;d1;t1;r1;c1;s9;").count(1), 6);
    MusicBox x = of(box);
    c.due("8 no fault yet", x.fault(), 0);
    Checks.read(x, law + "p64;");
    c.due("8 the number", x.fault(), 2);
    Checks.read(x, box);
    c.due("8 it stays", x.fault(), 2);
  }

  // ---- promise 9

  private void undone() {
    MusicBox x = of(CRACKED);
    c.due("9 none", x.undo(), STATE);
    c.due("9 none without a box", new MusicBox().undo(), STATE);
    x.ticks(3);
    x.mend(0);
    x.wind(9);
    x.pin(2, 0);
    x.drum(0);
    c.due("9 acts", x.count(6), 7);
    c.due("9 the drum", x.undo(), 6);
    c.due("9 is where it was", x.stand(1), 3);
    c.due("9 the pin", x.undo(), 5);
    c.due("9 is set", x.pins(2), 1);
    c.due("9 the winding", x.undo(), 4);
    c.due("9 is gone", x.stand(2), 84);
    c.due("9 the mending", x.undo(), 3);
    c.due("9 is broken again", x.tooth(0, 3), 1);
    c.due("9 was plucked", x.tooth(0, 2), 3);
    c.due("9 rings", x.tooth(0, 1), 17);
    c.due("9 a tick", x.undo(), 2);
    c.due("9 is whole", x.tooth(0, 3), 0);
    c.due("9 tick", x.count(3), 2);
    c.due("9 spring", x.stand(2), 86);
    x.undo();
    c.due("9 the first", x.undo(), 0);
    c.due("9 none yet", x.undo(), STATE);
    c.due("9 tick 0", x.count(3), 0);
    x.ticks(20);
    x.ticks(10);
    c.due("9 24 are kept", x.count(6), 24);
    for (int left = 23; left >= 0; left--) {
      c.due("9 down to " + left, x.undo(), left);
    }
    c.due("9 the oldest are forgotten", x.undo(), STATE);
    c.due("9 6 ticks stay", x.count(3), 6);
  }

  // ---- part 2

  private void fading() {
    MusicBox x = of("m60,0;p0;p31;p0;p0;s4;d5;r7;c8;s1;");
    int[][] rings = {{8, 5, 12, 13, 2}, {6, 0, 11, 6, 0}, {4, 0, 10, 3, 0}, {2, 0, 9, 1, 0}};
    for (int tick = 0; tick < 4; tick++) {
      x.ticks(1);
      for (int t = 0; t < 5; t++) {
        c.due("10 tick " + (tick + 1) + " tooth " + t, x.tooth(t, 1), rings[tick][t]);
      }
    }
    x = of("m2,0;p0;p1;p0;p0;t2;c1;");
    int[] twin = {4, 2, 0, 0}, next = {2, 1, 0, 0};
    for (int tick = 0; tick < 4; tick++) {
      x.ticks(1);
      c.due("10 a twin fades as steel", x.tooth(0, 1), twin[tick]);
      c.due("10 one that was stirred fades by its kind", x.tooth(1, 1), next[tick]);
    }
    c.due("10 one that was stirred was not plucked", x.tooth(1, 2), 0);
    c.due("10 with the spring down the drum stands", x.stand(1), 1);
  }

  private void plucking() {
    MusicBox x = of("m4,3;p15;p0;p0;p0;s1;s2;s3;s4;");
    c.due("10 the spring is down by plucks", x.ticks(1), 12);
    c.due("10 the last one is not plucked", x.tooth(3, 2), 0);
    c.due("10 spring", x.stand(2), 0);
    c.due("10 0 behind the last column", x.stand(1), 0);
    x = of("m1,0;p0;p1;p0;p0;s9;");
    c.due("10 the turn takes the last of the spring", x.ticks(1), 0);
    c.due("10 and it turned", x.stand(1), 1);
    c.due("10 but no more", x.ticks(1) + x.stand(1), 1);
    x = of("m42,0;p0;p1;p0;p0;r5;");
    c.due("10 a reed: 5 and a tenth of 40", x.ticks(1), 9);
    x = of("m41,0;p0;p1;p0;p0;r5;");
    c.due("10 a reed: 5 and a tenth of 39", x.ticks(1), 8);
    x = of("m50,0;p0;p3;p0;p0;t9;d1;");
    c.due("10 a tooth plucked behind a twin rings by itself", x.ticks(1), 19);
    x = of("m50,0;p0;p1;p0;p0;t9;");
    c.due("10 the last tooth has no next", x.ticks(1), 18);
    x = of("m50,0;p2;p1;p0;p0;t2;s9;");
    x.drum(3);
    x.ticks(1);
    x.ticks(1);
    c.due("10 one that rings by more is not stirred", x.tooth(1, 1), 16);
    x = of("m90,0;p2;p2;p2;p1;t9;c1;");
    x.drum(3);
    x.ticks(3);
    c.due("10 broken", x.stand(5), 2);
    c.due("10 rings yet: 1 and a tenth of 84", x.tooth(1, 1), 9);
    x.ticks(1);
    c.due("10 a broken one is not stirred, it fades", x.tooth(1, 1), 4);
    x.drum(3);
    x.ticks(1);
    c.due("10 nor plucked", x.tooth(1, 2), 3);
    c.due("10 nor does it take of the spring", x.stand(2), 81);
  }

  // ---- promise 10

  private void ticks() {
    MusicBox x = of(PLAIN);
    for (int tick = 0; tick < 12; tick++) {
      c.due("10 loud behind tick " + (tick + 1), x.ticks(1), PLAIN_LOUD[tick]);
    }
    c.due("10 too few", x.ticks(0), BAD);
    c.due("10 too many", x.ticks(25), BAD);
    c.due("10 no box, ahead of BAD", new MusicBox().ticks(0), STATE);
    for (int i = 0; i < 41; i++) {
      x.ticks(24);
    }
    c.due("10 tick", x.count(3), 996);
    c.due("10 above 999", x.ticks(4), FULL);
    c.due("10 BAD ahead of FULL", x.ticks(25), BAD);
    c.due("10 as it was", x.count(3), 996);
    c.due("10 up to 999", x.ticks(3), 0);
    c.due("10 no more", x.ticks(1), FULL);
    c.due("19 foretold beyond it", x.heard(60, 3), 0);
    c.due("9 undone from there", x.undo(), 23);
    c.due("10 again", x.ticks(1), 0);
    pluckedOften();
  }

  private void pluckedOften() {
    MusicBox x = of("m99,0;p1;p1;p1;p1;s1;");
    for (int i = 0; i < 9; i++) {
      x.ticks(24);
      x.wind(99);
    }
    c.due("10 99 at most", x.tooth(0, 2), 99);
    c.due("18 foretold, too", x.ahead(0, 5, 1), 99);
    c.due("31 but all are counted", x.drawn(1, 1, 0), 1);
  }

  // ---- promise 11

  private void winding() {
    MusicBox x = of(PLAIN);
    c.due("11 wound", x.wind(1), 21);
    c.due("11 99 at most", x.wind(99), 99);
    c.due("11 too little", x.wind(0), BAD);
    c.due("11 too much", x.wind(100), BAD);
    c.due("11 no box, ahead of BAD", new MusicBox().wind(0), STATE);
    c.due("11 acts", x.count(6), 2);
  }

  // ---- promise 12

  private void pinning() {
    MusicBox x = of("m9,0;p0;p32;p0;p0;s1;s1;");
    c.due("12 set", x.pin(1, 1), 34);
    c.due("12 drawn", x.pin(1, 1), 32);
    c.due("12 acts", x.count(6), 2);
    c.due("12 no such tooth", x.pin(1, 2), BAD);
    c.due("12 no such tooth, though it has a pin", x.pin(1, 5), BAD);
    c.due("12 no such column", x.pin(4, 0), BAD);
    c.due("12 below 0", x.pin(-1, 0), BAD);
    c.due("12 tooth below 0", x.pin(0, -1), BAD);
    c.due("12 no box", new MusicBox().pin(0, 0), BAD);
    c.due("12 nothing else", x.count(6), 2);
  }

  // ---- promises 13, 14

  private void drumAndMend() {
    MusicBox x = of("m90,3;p1;p1;p1;p1;c9;s1;");
    c.due("13 set", x.drum(1), 3);
    c.due("13 it is there", x.drum(1), STATE);
    c.due("13 no such column", x.drum(4), BAD);
    c.due("13 below 0", x.drum(-1), BAD);
    c.due("13 no box", new MusicBox().drum(0), BAD);
    c.due("13 acts", x.count(6), 1);
    c.due("13 where it was", x.drum(3), 1);
    c.due("14 not broken", x.mend(0), STATE);
    x.ticks(3);
    c.due("14 steel is never", x.mend(1), STATE);
    c.due("14 mended", x.mend(0), 3);
    c.due("14 not broken any more", x.tooth(0, 3), 0);
    c.due("14 plucked 0", x.tooth(0, 2), 0);
    c.due("14 silent", x.tooth(0, 1), 0);
    c.due("14 once", x.mend(0), STATE);
    c.due("14 no such tooth", x.mend(2), BAD);
    c.due("14 below 0", x.mend(-1), BAD);
    c.due("14 no box", new MusicBox().mend(0), BAD);
    c.due("14 it breaks anew behind three", x.when(0, 1), 3);
  }

  // ---- promises 15, 16, 17

  private void looking() {
    MusicBox x = of("m90,1;p1;p3;p32;p1;c9;s4;");
    x.ticks(3);
    c.due("15 tuned", x.tooth(0, 0), 9);
    c.due("15 rings: 9 and a tenth of 85, halved no more", x.tooth(0, 1), 17);
    c.due("15 plucked", x.tooth(0, 2), 2);
    c.due("15 broken", x.tooth(0, 3), 0);
    c.due("15 columns", x.tooth(0, 4), 11);
    c.due("15 columns of the other", x.tooth(1, 4), 2);
    c.due("15 what", x.tooth(0, 5), BAD);
    c.due("15 what below 0", x.tooth(0, -1), BAD);
    c.due("15 tooth", x.tooth(2, 0), BAD);
    c.due("15 tooth below 0", x.tooth(-1, 0), BAD);
    x.ticks(1);
    c.due("15 broken now", x.tooth(0, 3), 1);
    c.due("16 pins", x.pins(1), 3);
    c.due("16 pins of no tooth", x.pins(2), 32);
    c.due("16 column", x.pins(4), BAD);
    c.due("16 column below 0", x.pins(-1), BAD);
    c.due("16 no box", new MusicBox().pins(0), BAD);
    int[] stands = {4, 1, 82, 25, 3, 1};
    for (int what = 0; what < 6; what++) {
      c.due("17 stand(" + what + ")", x.stand(what), stands[what]);
    }
    c.due("17 what", x.stand(6), BAD);
    c.due("17 what below 0", x.stand(-1), BAD);
    c.due("17 no box, ahead of BAD", new MusicBox().stand(6), STATE);
  }

  // ---- promises 18 to 21

  private void foretold() {
    MusicBox x = of(PLAIN);
    c.due("18 rings", x.ahead(0, 3, 0), 6);
    c.due("18 now", x.ahead(0, 0, 0), 0);
    c.due("18 plucked", x.ahead(0, 60, 1), 3);
    c.due("18 not broken", x.ahead(0, 60, 2), 0);
    c.due("18 broken", of(CRACKED).ahead(0, 3, 2), 1);
    c.due("18 not yet", of(CRACKED).ahead(0, 2, 2), 0);
    c.due("18 n", x.ahead(0, 61, 0), BAD);
    c.due("18 n below 0", x.ahead(0, -1, 0), BAD);
    c.due("18 what", x.ahead(0, 0, 3), BAD);
    c.due("18 tooth", x.ahead(3, 0, 0), BAD);
    int[] heard = {7, 5, 0, 13};
    for (int what = 0; what < 4; what++) {
      c.due("19 heard(4, " + what + ")", x.heard(4, what), heard[what]);
    }
    for (int n = 1; n <= 12; n++) {
      c.due("19 heard(" + n + ", 0)", x.heard(n, 0), PLAIN_LOUD[n - 1]);
    }
    c.due("19 now", x.heard(0, 3), 20);
    c.due("19 the drum stands with the spring down", x.heard(60, 2), 3);
    c.due("19 n", x.heard(61, 0), BAD);
    c.due("19 what", x.heard(0, 4), BAD);
    c.due("19 no box, ahead of BAD", new MusicBox().heard(61, 0), STATE);
    c.due("20 the first", x.when(0, 0), 1);
    c.due("20 the last", x.when(2, 0), 3);
    c.due("20 never broken", x.when(2, 1), NONE);
    c.due("20 broken", of(CRACKED).when(0, 1), 3);
    c.due("20 how", x.when(0, 2), BAD);
    c.due("20 tooth", x.when(3, 0), BAD);
    c.due("20 never", of(EMPTY + "s1;").when(0, 0), NONE);
    c.due("21 stops", x.stops(), 11);
    c.due("21 behind 60", of("m60,0;p0;p0;p0;p0;s1;").stops(), 60);
    c.due("21 not within 60", of("m61,0;p0;p0;p0;p0;s1;").stops(), NONE);
    c.due("21 now", of("m0,0;p0;p0;p0;p0;s1;").stops(), 0);
    c.due("21 no box", new MusicBox().stops(), STATE);
    c.due("18 nothing changes", x.count(3) + x.count(6) + x.stand(3), 0);
    x.ticks(1);
    c.due("20 it rings now", x.when(0, 0), 0);
  }

  // ---- promises 22, 23, 24

  private void best() {
    MusicBox x = of(EMPTY + "s5;s6;");
    c.due("22 the loudest in the next column", x.bestPin(1, 0), 11);
    c.due("22 by so much", x.bestPin(1, 1), 12);
    c.due("22 12 10 8 6", x.bestPin(4, 1), 36);
    x = of("m9,0;p0;p0;p0;p0;s5;d9;s5;");
    c.due("22 of several the first tooth", x.bestPin(1, 0), 10);
    c.due("22 of several the first column", of("m0,0;p0;p0;p0;p0;s5;").bestPin(20, 0), 0);
    c.due("22 a pin is drawn, to keep the spring", of("m3,0;p0;p3;p0;p0;d1;d9;d9;").bestPin(1, 1), 10);
    x = of("m2,0;p0;p3;p0;p0;d1;d9;");
    c.due("22 the pin that takes the last of the spring", x.bestPin(1, 0), 10);
    c.due("22 by so much then", x.bestPin(1, 1), 9);
    c.due("22 n", x.bestPin(21, 0), BAD);
    c.due("22 n 0", x.bestPin(0, 0), BAD);
    c.due("22 what", x.bestPin(1, 2), BAD);
    c.due("22 no box, ahead of BAD", new MusicBox().bestPin(0, 0), STATE);

    x = of("m9,0;p1;p0;p0;p1;s5;");
    c.due("23 the first of several", x.begin(1, 0), 2);
    c.due("23 by so much", x.begin(1, 1), 10);
    c.due("23 3 turns", x.begin(3, 1), 10 + 10 + 8);
    c.due("23 it may stay", of("m9,2;p0;p0;p0;p1;s5;").begin(1, 0), 2);
    c.due("23 most ticks: from 1 and from 2 it is as much", x.begin(40, 0), 1);
    c.due("23 0 10 10 8 6 10 8 6 4 2", x.begin(40, 1), 64);
    c.due("23 n", x.begin(41, 0), BAD);
    c.due("23 n 0", x.begin(0, 0), BAD);
    c.due("23 what", x.begin(1, 2), BAD);
    c.due("23 no box, ahead of BAD", new MusicBox().begin(0, 0), STATE);
    c.due("22 nothing changes", x.pins(0) + x.stand(1) + x.count(6), 1);

    c.due("24 one for each and one", of("m50,0;p0;p0;p0;p0;s1;").least(40), 41);
    String all = "m0,0;p63;p63;p63;p63;s1;s1;s1;s1;s1;s1;";
    c.due("24 seven for each and one", of(all).least(14), 99);
    c.due("24 not even 99", of(all).least(15), NONE);
    c.due("24 one tick", of("m50,0;p0;p0;p0;p0;s1;").least(1), 2);
    c.due("24 it breaks: 2 2 2 1", of("m0,0;p1;p1;p1;p1;c9;").least(4), 8);
    c.due("24 n", x.least(41), BAD);
    c.due("24 n 0", x.least(0), BAD);
    c.due("24 no box, ahead of BAD", new MusicBox().least(0), STATE);
  }

  // ---- promise 25

  private void tunes() {
    MusicBox x = of("m0,0;p1;p3;p1;p7;s1;s1;");
    Checks.fill(x, 0, 2, 1, 3, 1, 3, 1, 3, 7, 64, -1, 1, 1, 1, 1);
    c.due("25 one", x.tune(0, 0, 1), 5);
    c.due("25 two", x.tune(0, 0, 2), 5);
    c.due("25 round the drum", x.tune(0, 1, 4), 10);
    c.due("25 more than the drum has", x.tune(0, 0, 6), 5);
    c.due("25 pins of teeth that there are not do not stand", x.tune(0, 6, 1), 0);
    c.due("25 64 is no set", x.tune(0, 7, 1), 0);
    c.due("25 -1 is no set", x.tune(0, 8, 1), 0);
    c.due("25 not in a row", x.tune(0, 9, 2), 0);
    c.due("25 12 of them", x.tune(0, 0, 12), 0);
    c.due("25 n 13", x.tune(0, 0, 13), BAD);
    c.due("25 n 0", x.tune(0, 0, 0), BAD);
    c.due("25 row", x.tune(8, 0, 1), BAD);
    c.due("25 missing", x.tune(1, 0, 1), NULL);
    c.due("25 beyond the end", x.tune(0, 13, 1), PLACE);
    c.due("25 beyond the end, the last", x.tune(0, 12, 2), PLACE);
    c.due("25 ahead of the first", x.tune(0, -1, 1), PLACE);
    c.due("25 no box, ahead of BAD", new MusicBox().tune(8, 0, 0), STATE);
    x.row(1, 0, 0);
    c.due("25 nowhere in none", x.tune(1, 0, 1), PLACE);
  }

  // ---- promises 26, 27

  private void setsAndShares() {
    MusicBox x = of("m90,0;p0;p31;p0;p0;d1;d2;d3;d4;d5;d6;");
    c.due("26 none rings: the empty set", x.sets(0, 0), 1);
    c.due("26 that has none", x.sets(0, 1) + x.sets(0, 2), 0);
    c.due("26 no set", x.sets(1, 0), 0);
    x.ticks(1);
    c.due("26 1 5, 2 4, 1 2 3", x.sets(6, 0), 3);
    c.due("26 in all", x.sets(6, 1), 0);
    c.due("26 in any", x.sets(6, 2), 31);
    c.due("26 all but one: 2 3 4 5", x.sets(14, 1), 30);
    c.due("26 all of them", x.sets(15, 1), 31);
    c.due("26 the empty set yet", x.sets(0, 0), 1);
    c.due("26 the empty set is in all", x.sets(0, 1), 0);
    c.due("26 too loud", x.sets(16, 0), 0);
    c.due("26 too loud, in all", x.sets(16, 1), 0);
    c.due("26 too loud, in any", x.sets(16, 2), 0);
    c.due("26 99", x.sets(99, 0), 0);
    c.due("26 v", x.sets(100, 0), BAD);
    c.due("26 v below 0", x.sets(-1, 0), BAD);
    c.due("26 what", x.sets(0, 3), BAD);
    c.due("26 no box, ahead of BAD", new MusicBox().sets(100, 0), STATE);

    x = of("m90,0;p1;p3;p7;p0;s1;s1;s1;s1;");
    c.due("27 none was plucked", x.share(0, 9), 0);
    x.drum(3);
    x.ticks(3);
    int[] shares = {5 + 1, 3 + 1, 1, 0};
    for (int t = 0; t < 4; t++) {
      c.due("27 11 by 3 2 1: tooth " + t, x.share(t, 11), shares[t]);
    }
    c.due("27 nothing to share", x.share(0, 0), 0);
    c.due("27 one over", x.share(0, 1), 1);
    c.due("27 one over, the next", x.share(1, 1), 0);
    c.due("27 most", x.share(0, 999), 500);
    c.due("27 n", x.share(0, 1000), BAD);
    c.due("27 n below 0", x.share(0, -1), BAD);
    c.due("27 tooth", x.share(4, 1), BAD);
    x = of("m90,0;p0;p2;p0;p0;s1;s1;");
    x.ticks(1);
    c.due("27 one pluck in all", x.share(1, 7), 7);
    c.due("27 one that was not plucked gets none", x.share(0, 7), 0);
    x = of("m90,3;p1;p1;p3;p2;c1;s1;");
    x.ticks(4);
    c.due("27 a broken one gets none", x.share(0, 9), 0);
    c.due("27 the other all", x.share(1, 9), 9);
    x = of(CRACKED);
    x.ticks(3);
    c.due("27 only a broken one was plucked", x.share(0, 9), 0);
  }

  // ---- promise 28

  private void turns() {
    MusicBox x = of("m2,0;p0;p0;p0;p0;s5;");
    c.due("28 no turns", x.byTurns(0, 1), 0);
    c.due("28 the pin is set", x.byTurns(1, 1), 10);
    c.due("28 winding changes nothing", x.byTurns(2, 1), 10);
    c.due("28 behind the last tick alone", x.byTurns(1, 3), 6);
    x = of("m1,3;p0;p0;p0;p0;s5;");
    c.due("28 the spring is too weak", x.byTurns(1, 1), 0);
    c.due("28 the other does not wind it", x.byTurns(4, 1), 0);
    x = of("m3,3;p1;p0;p0;p0;r1;");
    c.due("28 the pin is drawn or not: it rings", x.byTurns(1, 1), 1);
    x = of("m2,0;p0;p1;p2;p0;s1;d9;");
    c.due("28 the one draws the pin, yet the spring is down", x.byTurns(1, 2), 0);
    x = of("m3,0;p0;p1;p2;p0;s1;d9;");
    c.due("28 the one draws the pin, so that the next rings", x.byTurns(1, 2), 9);
    x = of("m9,0;p0;p1;p2;p0;s9;d1;");
    c.due("28 the other is last", x.byTurns(2, 1), 18);
    x = of("m97,0;p0;p1;p0;p0;r1;");
    c.due("28 wound to 99 at most", x.byTurns(4, 1), 1 + 9);
    c.due("28 n", x.byTurns(5, 1), BAD);
    c.due("28 n below 0", x.byTurns(-1, 1), BAD);
    c.due("28 m", x.byTurns(0, 21), BAD);
    c.due("28 m 0", x.byTurns(0, 0), BAD);
    c.due("28 no box, ahead of BAD", new MusicBox().byTurns(5, 0), STATE);
    c.due("28 nothing changes", x.stand(2) + x.pins(1) + x.count(6), 98);
  }

  // ---- promise 29

  private void who() {
    MusicBox x = of(PLAIN);
    Checks.fill(x, 0, 1, 99, 10, 12, 10, 7, 12, 13, 9, 6, 11, 12, 9, 6);
    c.due("29 steel", x.who(0, 0, 0, 1, 3), 1 << 1);
    c.due("29 tuned 5", x.who(0, 1, 0, 1, 3), 1 << 5);
    c.due("29 from column 0", x.who(0, 2, 0, 1, 3), 1);
    c.due("29 springs 16 to 25", x.who(0, 3, 0, 1, 3), 10);
    c.due("29 the least", x.who(0, 4, 0, 1, 3), 16);
    c.due("29 12 ticks: springs 20 to 22", x.who(0, 3, 0, 1, 12), 3);
    c.due("29 the least of these", x.who(0, 4, 0, 1, 12), 20);
    c.due("29 of another tooth: any kind that is silent yet", x.who(1, 0, 0, 1, 1), 62);
    c.due("29 any tuning", x.who(1, 1, 0, 1, 1), 1022);
    c.due("29 none fits", x.who(0, 0, 0, 0, 1), 0);
    c.due("29 no spring: how many", x.who(0, 3, 0, 0, 1), 0);
    c.due("29 no spring: the least", x.who(0, 4, 0, 0, 1), NONE);
    c.due("29 tooth", x.who(3, 0, 0, 0, 1), BAD);
    c.due("29 which", x.who(0, 5, 0, 0, 1), BAD);
    c.due("29 which below 0", x.who(0, -1, 0, 0, 1), BAD);
    c.due("29 row", x.who(0, 0, 8, 0, 1), BAD);
    c.due("29 n 0", x.who(0, 0, 0, 0, 0), BAD);
    c.due("29 n 13", x.who(0, 0, 0, 0, 13), BAD);
    c.due("29 missing", x.who(0, 0, 1, 0, 1), NULL);
    c.due("29 beyond the end", x.who(0, 0, 0, 13, 1), PLACE);
    c.due("29 beyond the end, the last", x.who(0, 0, 0, 2, 12), PLACE);
    c.due("29 ahead of the first", x.who(0, 0, 0, -1, 1), PLACE);
    c.due("29 no box", new MusicBox().who(0, 0, 0, 0, 1), BAD);
    c.due("29 nothing changes", x.kind(0) * 1000 + x.tooth(0, 0) * 100 + x.stand(2), 1520);
    x = of("m92,0;p0;p1;p0;p0;s9;");
    Checks.fill(x, 0, 0, 18);
    c.due("29 steel, a twin without a next, a reed by 90, a cracked one", x.who(0, 0, 0, 0, 1), 2 + 8 + 16 + 32);
  }

  // ---- promise 30

  private void chance(MusicBox x, int n, int p, long above, long below) {
    c.due("30 lost(0, " + n + ", " + p + ", 0)", x.lost(0, n, p, 0), above);
    c.due("30 lost(0, " + n + ", " + p + ", 1)", x.lost(0, n, p, 1), below);
  }

  private void lost() {
    MusicBox x = of("m90,0;p0;p1;p1;p0;s5;");
    chance(x, 0, 3, 0, 1);
    chance(x, 1, 3, 7, 10);
    chance(x, 1, 5, 1, 2);
    chance(x, 2, 3, 91, 100);
    chance(x, 2, 0, 1, 1);
    chance(x, 2, 10, 0, 1);
    chance(of("m90,0;p0;p1;p1;p0;d5;"), 2, 3, 7, 10);
    chance(of("m90,0;p0;p1;p1;p0;d5;"), 5, 3, 7, 10);
    chance(of("m3,0;p0;p1;p1;p1;d5;"), 2, 4, 6, 25);
    x = of("m90,0;p0;p0;p0;p0;s5;");
    chance(x, 20, 5, 0, 1);
    x = of("m99,0;p1;p1;p1;p1;p1;p1;p1;p1;p1;p1;p1;p1;d1;");
    chance(x, 12, 1, 9, 10);
    x = of("m99,0;p1;p1;p1;p1;p1;p1;p1;p1;p1;p1;p1;p1;s9;");
    chance(x, 9, 1, 999999999L, 1000000000L);
    c.due("30 tooth", x.lost(1, 0, 0, 0), BAD);
    c.due("30 n", x.lost(0, 21, 0, 0), BAD);
    c.due("30 n below 0", x.lost(0, -1, 0, 0), BAD);
    c.due("30 p", x.lost(0, 0, 11, 0), BAD);
    c.due("30 p below 0", x.lost(0, 0, -1, 0), BAD);
    c.due("30 what", x.lost(0, 0, 0, 2), BAD);
    c.due("30 no box", new MusicBox().lost(0, 0, 0, 0), BAD);
    c.due("30 nothing changes", x.tooth(0, 4), 4095);
    x.ticks(1);
    chance(x, 0, 10, 1, 1);
  }

  // ---- promise 31

  private void drawn() {
    // X: 16807, 282475249, 1622650073, 984943658, 1144108930; the spring: 7, then 10 with the fifth
    MusicBox x = of("m0,0;p1;p1;p1;p1;s5;");
    int[] plucks = {0, 1, 2, 3, 3, 4}, loud = {0, 10, 20, 30, 38, 48};
    for (int n = 0; n <= 5; n++) {
      c.due("31 drawn(" + n + ", 1, 0)", x.drawn(n, 1, 0), plucks[n]);
      c.due("31 drawn(" + n + ", 1, 1)", x.drawn(n, 1, 1), loud[n]);
    }
    // X: 50421 = 3 times 16807: column 1 of 4, pins 50421 - 64 times 787 = 53: teeth 0, 2, 4, 5
    x = of("m9,0;p0;p0;p0;p0;d1;d2;d3;d4;d5;d6;");
    c.due("31 pins are set", x.drawn(1, 3, 0), 4);
    c.due("31 and heard", x.drawn(1, 3, 1), 1 + 3 + 5 + 6);
    c.due("31 pins are not set with the spring down", of("m0,0;p0;p0;p0;p0;d1;").drawn(1, 3, 0), 0);
    x = of(CRACKED);
    x.ticks(3);
    c.due("31 mended, then plucked", x.drawn(1, 1, 0), 1);
    c.due("31 mended, the spring is down or not", x.drawn(3, 1, 0), 3);
    c.due("31 n", x.drawn(61, 1, 0), BAD);
    c.due("31 n below 0", x.drawn(-1, 1, 0), BAD);
    c.due("31 seed 0", x.drawn(1, 0, 0), BAD);
    c.due("31 seed", x.drawn(1, 1000000, 0), BAD);
    c.due("31 greatest seed, none", x.drawn(0, 999999, 1), 0);
    c.due("31 what", x.drawn(1, 1, 2), BAD);
    c.due("31 no box, ahead of BAD", new MusicBox().drawn(61, 0, 0), STATE);
    c.due("31 nothing changes", x.stand(5) + x.count(3), 4);
  }

  // ---- promises 32, 33

  private void images() {
    MusicBox x = new MusicBox();
    c.due("32 no box", x.image(0), STATE);
    c.due("32 BAD ahead of STATE", x.image(2), BAD);
    c.due("33 none kept", x.restore(0), STATE);
    c.due("33 no such", x.restore(2), BAD);
    c.due("33 below 0", x.restore(-1), BAD);
    Checks.read(x, CRACKED);
    x.ticks(3);
    c.due("32 kept", x.image(1), 1);
    c.due("32 no act", x.count(6), 3);
    c.due("33 the other was not kept", x.restore(0), STATE);
    Checks.read(x, PLAIN);
    x.ticks(5);
    x.image(0);
    c.due("33 back", x.restore(1), 1);
    c.due("33 teeth", x.count(1), 1);
    c.due("33 tick", x.count(3), 3);
    c.due("33 broken", x.stand(5), 1);
    c.due("33 rings", x.stand(3), 17);
    c.due("33 plucked", x.count(5), 3);
    c.due("33 kind", x.kind(0), 5);
    c.due("33 nothing to undo", x.undo(), STATE);
    x.ticks(1);
    c.due("33 the image stays", x.restore(1) + x.count(3), 4);
    x.restore(0);
    c.due("33 the other one", x.ticks(1), PLAIN_LOUD[5]);
    c.due("33 below 0, too", x.image(-1), BAD);
  }

  // ---- promises 34 to 37

  private void asked(MusicBox x, int one, int what, int answer, int... trace) {
    String call = "36 ask(" + one + ", " + what + ")";
    c.due(call, x.ask(one, what), answer);
    for (int i = 0; i < trace.length; i++) {
      c.due("37 trace(" + i + ") of " + call, x.trace(i), trace[i]);
    }
    c.due("37 the end of " + call, x.trace(trace.length), NONE);
    c.due("37 below 0", x.trace(-1), NONE);
  }

  private void asks() {
    MusicBox x = of(ONE_OF_EACH);
    for (int t = 0; t < 5; t++) {
      c.due("34 kind(" + t + ")", x.kind(t), t + 1);
    }
    c.due("34 no such tooth", x.kind(5), BAD);
    c.due("34 below 0", x.kind(-1), BAD);
    int[] kinds = {1 + 2, 1 + 2 + 4, 1 + 2 + 8, 1 + 16, 1 + 16 + 32};
    for (int t = 0; t < 5; t++) {
      for (int k = 0; k < 6; k++) {
        boolean is = (kinds[t] >> k & 1) == 1;
        c.due("35 as(" + t + ", " + k + ")", x.as(t, k), is ? t : KIND);
        c.due("39 status() of it", x.status(), is ? 0 : 3);
      }
    }
    c.due("35 no such kind", x.as(0, 6), BAD);
    c.due("35 kind below 0", x.as(0, -1), BAD);
    c.due("35 no such tooth", x.as(5, 0), BAD);

    x.ticks(1);
    // they ring by 8, 5, 12, 12 and 13
    asked(x, 0, 0, 4 + 8, 11, 10, 21, 20);
    asked(x, 0, 1, 8, 21, 20);
    asked(x, 1, 0, -(5 + 12), 12, 11, 10, 24, 21, 20);
    asked(x, 1, 1, 12, 24, 21, 20);
    asked(x, 2, 0, 6 + 14 - 1000, 11, 10, 22, 21, 20);
    asked(x, 2, 1, 14 - 1000, 22, 21, 20);
    asked(x, 3, 0, -93, 13, 10);
    asked(x, 3, 1, 3 + 93, 23, 20, 13, 10);
    asked(x, 4, 0, -184, 14, 13, 10);
    asked(x, 4, 1, 4 + 184, 23, 20, 14, 13, 10);
    c.due("36 no such ask", x.ask(0, 2), BAD);
    c.due("36 no such tooth", x.ask(5, 0), BAD);
    c.due("36 no box", new MusicBox().ask(0, 0), BAD);
    c.due("37 a refused ask leaves the trace", x.trace(4), 10);
  }

  // ---- promise 38

  private void counts() {
    MusicBox x = of(PLAIN);
    x.row(0, 0, 0);
    x.row(7, 0, 3);
    x.ticks(7);
    x.feed('m');
    int[] counts = {2, 3, 4, 7, 7, 6, 7, 1};
    // by then the spring is 7, and of each of 3 teeth 2 plucks were
    for (int what = 0; what < 8; what++) {
      c.due("38 count(" + what + ")", x.count(what), counts[what]);
    }
    c.due("38 what", x.count(8), BAD);
    c.due("38 below 0", x.count(-1), BAD);
  }

  // ---- promise 39

  private void status() {
    MusicBox x = of(PLAIN);
    x.row(0, 0, -1);
    c.due("39 SIZE", x.status(), 4);
    x.row(0, 0, 41);
    c.due("39 BAD leaves it", x.status(), 4);
    x.ticks(1);
    x.undo();
    x.share(0, 1);
    c.due("39 calls without a row leave it", x.status(), 4);
    x.row(0, 0, 2);
    c.due("39 none", x.status(), 0);
    x.set(1, 0, 0);
    c.due("39 NULL", x.status(), 1);
    x.set(0, 0, 0);
    c.due("39 none by set", x.status(), 0);
    x.set(0, 2, 0);
    c.due("39 PLACE", x.status(), 2);
    x.as(0, 6);
    c.due("39 BAD by as leaves it", x.status(), 2);
    x.as(0, 1);
    c.due("39 none by as", x.status(), 0);
    x.as(0, 4);
    c.due("39 KIND", x.status(), 3);
    x.row(1, 1, 2);
    x.copy(0, 0, 1, 0, 1);
    c.due("39 STORE", x.status(), 5);
    x.copy(0, 0, 0, 1, 1);
    c.due("39 none by copy", x.status(), 0);
    x.drop(5);
    c.due("39 NULL by drop", x.status(), 1);
    x.drop(1);
    c.due("39 none by drop", x.status(), 0);
    x.tune(5, 0, 1);
    c.due("39 NULL by tune", x.status(), 1);
    x.tune(0, 0, 1);
    c.due("39 none by tune", x.status(), 0);
    x.who(0, 0, 0, 2, 1);
    c.due("39 PLACE by who", x.status(), 2);
    x.tune(0, 0, 0);
    x.who(9, 0, 0, 0, 1);
    c.due("39 BAD by tune, who leaves it", x.status(), 2);
    x.who(0, 0, 0, 0, 1);
    c.due("39 none by who", x.status(), 0);
    x = new MusicBox();
    x.set(0, 0, 0);
    x.tune(0, 0, 1);
    c.due("39 STATE leaves it", x.status(), 1);
  }
}
