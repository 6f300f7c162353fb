/** What is foretold and asked, at the edges that the document names, sentence by sentence. */
final class ForetoldEdges {
  private static final int NONE = -1000000, BAD = -1000001;
  private static final String SILENT = "p0;p0;p0;p0;";
  private static final String TWELVE = "p1;p0;p0;p0;p0;p0;p0;p0;p0;p0;p0;p0;";
  private static final String SIX = "s1;s1;s1;s1;s1;s1;";

  private final Checks c;

  ForetoldEdges(Checks c) {
    this.c = c;
  }

  void all() {
    ahead();
    when();
    stops();
    bestPin();
    begin();
    least();
    tunes();
    sets();
    shares();
    turns();
    turnsAtNinetyNine();
    kindsAndTunings();
    beginsAndSprings();
    lost();
    days();
    kinds();
    bodies();
    trace();
    counts();
    status();
  }

  private static MusicBox of(String text) {
    return Checks.boxOf(text);
  }

  // ---- ticks to come

  private void ahead() {
    c.says("AHEAD by n TICKS (0 to 60) of a TOOTH: what it RINGS by; how often it was PLUCKED; whether it is BROKEN (1, 0).");
    MusicBox x = of("m90,3;p3;p1;p2;p0;c9;t2;");
    MusicBox y = of("m90,3;p3;p1;p2;p0;c9;t2;");
    x.ticks(2);
    y.ticks(2);
    int[] rest = {0, 1, 19, 20, 20};
    int n = 0;
    for (int more : rest) {
      if (more > 0) {
        y.ticks(more);
      }
      n += more;
      for (int t = 0; t < 2; t++) {
        for (int what = 0; what < 3; what++) {
          c.due("ahead(" + t + ", " + n + ", " + what + ")", x.ahead(t, n, what), y.tooth(t, what + 1));
        }
      }
    }
    c.due("as far as 60", n, 60);
    c.due("the spring is down by then", y.stand(2), 0);

    c.says("HEARD behind n TICKS (0 to 60): LOUD; which TEETH RING (bits); the COLUMN; SPRING.");
    int[] stands = {3, 4, 1, 2};
    x = of("m99,2;" + TWELVE + "r9;s1;");
    y = of("m99,2;" + TWELVE + "r9;s1;");
    for (int behind = 0; behind <= 60; behind += 12) {
      for (int what = 0; what < 4; what++) {
        c.due("heard(" + behind + ", " + what + ")", x.heard(behind, what), y.stand(stands[what]));
      }
      y.ticks(12);
    }
    c.due("60 ticks and 5 plucks", x.heard(60, 3), 99 - 65);
  }

  private void when() {
    c.says("WHEN a TOOTH RINGS first, is BROKEN first: behind how many TICKS (0 to 60); NONE.");
    MusicBox x = of("m99,0;" + TWELVE + "c9;s1;");
    c.due("all the way round", x.when(0, 0), 12);
    c.due("three times round", x.when(0, 1), 36);
    c.due("never", x.when(1, 0), NONE);
    c.due("never broken", x.when(1, 1), NONE);
    c.due("the spring is just enough", of("m13,0;" + TWELVE + "c9;").when(0, 0), 12);
    c.due("just too weak", of("m12,0;" + TWELVE + "c9;").when(0, 0), NONE);
    c.due("just enough for three", of("m39,0;" + TWELVE + "c9;").when(0, 1), 36);
    c.due("just too weak for three", of("m38,0;" + TWELVE + "c9;").when(0, 1), NONE);
    x.drum(11);
    x.ticks(1);
    c.due("it rings now", x.when(0, 0), 0);
    c.due("two more to break it", x.when(0, 1), 24);
    x.ticks(24);
    c.due("broken now", x.when(0, 1), 0);
    x.ticks(5);
    c.due("it fades: 18 9 4 2 1 0, and is plucked no more", x.when(0, 0), NONE);
    c.due("stirred by a twin", of("m9,0;p0;p0;p1;p0;t1;s1;").when(1, 0), 2);
  }

  private void stops() {
    c.says("STOPS: behind how many TICKS (0 to 60) SPRING is 0 first; NONE.");
    int[][] due = {{0, 0}, {1, 1}, {59, 59}, {60, 60}, {61, NONE}, {99, NONE}};
    for (int[] pair : due) {
      c.due("a spring of " + pair[0], of("m" + pair[0] + ",0;" + SILENT + "s1;").stops(), pair[1]);
    }
    c.due("a pluck takes the last", of("m2,0;p0;p1;p0;p0;s1;").stops(), 1);
    c.due("61 and 4 plucks", of("m61,3;" + "p0;p0;p0;p1;p0;p0;p0;p0;p0;p0;p0;p0;s1;").stops(), 57);
    c.due("65 and 5 plucks", of("m65,3;" + "p0;p0;p0;p1;p0;p0;p0;p0;p0;p0;p0;p0;s1;").stops(), 60);
    c.due("66 and 5 plucks", of("m66,3;" + "p0;p0;p0;p1;p0;p0;p0;p0;p0;p0;p0;p0;s1;").stops(), NONE);
  }

  // ---- what is best

  private void bestPin() {
    c.says("the PIN (a COLUMN, a TOOTH that there is) that, set or drawn now, makes LOUD behind each of n TICKS, all together, most, "
        + "of several the first (by COLUMNS, then by TEETH): 10 times the COLUMN and the TOOTH; how much.");
    MusicBox x = of("m99,3;p32;p32;p32;p32;p32;p32;p32;p32;p32;p32;p32;p0;d1;d1;d1;d1;d1;s9;");
    c.due("the last column, the last tooth", x.bestPin(8, 0), 115);
    c.due("eight times 18", x.bestPin(8, 1), 144);
    c.due("of the next column the first tooth", x.bestPin(7, 0), 40);
    c.due("seven times 18 and 1", x.bestPin(7, 1), 127);
    x = of("m99,3;" + SILENT + "s5;s5;");
    c.due("round the drum: column 0 is next", x.bestPin(1, 0), 0);
    c.due("10", x.bestPin(1, 1), 10);
    c.due("20 ticks: 10 8 6 4, five times", x.bestPin(20, 1), 140);
    x = of("m0,0;p1;p1;p1;p1;s9;");
    c.due("nothing is heard: the first", x.bestPin(20, 0), 0);
    c.due("nothing", x.bestPin(20, 1), 0);
    x = of("m2,3;p3;p0;p0;p0;d1;d9;");
    c.due("drawn, so that the spring does for the other", x.bestPin(1, 0), 0);
    c.due("9", x.bestPin(1, 1), 9);
    x = of("m99,0;p1;p1;p1;p1;s9;");
    c.due("nothing set, nothing drawn would be 72, but is no pin", x.bestPin(4, 0), 0);
    c.due("18 18 18 16", x.bestPin(4, 1), 70);
    x = of("m3,0;p0;p0;p62;p0;s9;");
    c.due("a tooth that there is not is not asked for", x.bestPin(2, 0), 10);
    c.due("18 16", x.bestPin(2, 1), 34);
  }

  private void begin() {
    c.says("the COLUMN to which THE DRUM should be set now, by which LOUD behind each of them, all together, is most, "
        + "of several the first: which; how much.");
    MusicBox x = of("m99,0;" + TWELVE + "s9;");
    c.due("0 is behind the last", x.begin(1, 0), 11);
    c.due("18", x.begin(1, 1), 18);
    c.due("two of them: 18 16", x.begin(2, 1), 34);
    c.due("of all that are silent the first", of("m99,2;" + SILENT + "s9;").begin(40, 0), 0);
    c.due("with the spring down, too", of("m0,2;p0;p0;p0;p1;s9;").begin(40, 0), 0);
    c.due("0", of("m0,2;p0;p0;p0;p1;s9;").begin(40, 1), 0);
    x = of("m9,1;p0;p1;p1;p0;s9;");
    c.due("of 0 and 1, as loud, the first", x.begin(1, 0), 0);
    c.due("0 is the loudest: 18 18, where it may be set, or is", x.begin(2, 1), 36);
    x = of("m3,0;p0;p0;p0;p1;s9;");
    c.due("40 ticks: 18 16 14 12 10 8 6 4 2, from 1 or from 2; from 0 the spring does not do", x.begin(40, 0), 1);
    c.due("90", x.begin(40, 1), 90);
    c.due("what rings now is heard, too", ringing().begin(1, 1), 16);
  }

  private static MusicBox ringing() {
    MusicBox x = of("m9,0;p0;p1;p0;p0;s9;");
    x.ticks(1);
    x.pin(1, 0);
    return x;
  }

  private void least() {
    c.says("the least SPRING (0 to 99), all else as it is, by which SPRING is above 0 behind them; NONE.");
    c.due("one tick", of("m0,0;" + SILENT + "s1;").least(1), 2);
    c.due("one tick and a pluck", of("m99,0;p0;p1;p0;p0;s1;").least(1), 3);
    c.due("40 ticks", of("m0,0;" + SILENT + "s1;").least(40), 41);
    c.due("40 ticks and plucks", of("m0,0;p1;p1;p1;p1;s1;").least(40), 81);
    String three = "m50,0;p3;p3;p3;p3;s1;s1;";
    c.due("97", of(three).least(32), 97);
    c.due("100 is too much", of(three).least(33), NONE);
    c.due("40: far too much", of(three).least(40), NONE);
    String seven = "m50,0;p63;p63;p63;p63;" + SIX;
    c.due("just 99", of(seven).least(14), 99);
    MusicBox x = of("m90,0;p1;p1;p1;p1;c9;");
    c.due("it breaks by three plucks", x.least(5), 9);
    x.ticks(3);
    c.due("it is broken", x.least(5), 6);
    x.mend(0);
    c.due("it is mended", x.least(5), 9);
    x.drum(0);
    c.due("the spring that there is does not matter", x.wind(99) + x.least(5), 99 + 9);
  }

  // ---- tunes, sets, shares

  private void tunes() {
    c.says("TUNE: a row of 1 to 12 sets (0 to 63 each): COLUMNS (bits) from which on, COLUMN by COLUMN (0 behind the last), "
        + "just these PINS of TEETH that there are stand.");
    MusicBox x = of("m0,0;p0;p1;p2;p3;p4;p5;p6;p7;p8;p9;p10;p63;" + SIX);
    Checks.fill(x, 0, 0, 63, 0, 1, 2, 3, 4, 5, 6, 7, 8, 9, 10, 63);
    c.due("12 of 12, from the last on", x.tune(0, 0, 12), 1 << 11);
    c.due("12 of 12, from the first on", x.tune(0, 1, 12), 1);
    c.due("one, all teeth", x.tune(0, 0, 1), 1 << 11);
    c.due("one, no tooth", x.tune(0, 1, 1), 1);
    x = of("m0,0;p1;p0;p1;p0;s1;");
    Checks.fill(x, 0, 0, 1, 0, 1, 0, 1, 0, 1, 0, 1, 0, 1, 0);
    c.due("12 of 4, three times round", x.tune(0, 0, 12), 5);
    c.due("11 of 4", x.tune(0, 1, 11), 10);
    x.set(0, 11, 1);
    c.due("the twelfth is another", x.tune(0, 0, 12), 0);
    c.due("the first eleven are as they were", x.tune(0, 0, 11), 5);
    x = of("m0,0;p63;p62;p1;p0;s1;");
    Checks.fill(x, 0, 1, 1, 0, 63, 62);
    c.due("pins of teeth that there are not do not matter: 1", x.tune(0, 0, 1), 5);
    c.due("nor for 0", x.tune(0, 1, 1), 10);
    c.due("pins of teeth that there are not do not stand: 63", x.tune(0, 2, 1), 0);
    c.due("nor 62", x.tune(0, 3, 1), 0);

    c.says("(An ITEM that is no set is nowhere.)");
    x = of("m0,0;p0;p1;p63;p63;" + SIX);
    Checks.fill(x, 0, 2, 64, -1, 127, 65, 1 << 20, Integer.MIN_VALUE, Integer.MAX_VALUE);
    for (int i = 0; i < 7; i++) {
      c.due("item " + i, x.tune(0, i, 1), 0);
    }
    Checks.fill(x, 0, 0, 0, 1, 64);
    c.due("nor with others", x.tune(0, 0, 3), 0);
    c.due("the others are there", x.tune(0, 0, 2), 1);
    c.due("no finding", x.status(), 0);
  }

  private void sets() {
    c.says("sets of TEETH that RING (by 1 or more) which RING by v together: how many; TEETH (bits) that are in all of these (none: 0); in any.");
    MusicBox x = of("m99,0;p0;p63;p0;p0;s9;s9;s9;s9;s9;d9;");
    sets(x, 0, 1, 0, 0);
    sets(x, 99, 0, 0, 0);
    x.ticks(1);
    sets(x, 99, 1, 63, 63);
    sets(x, 0, 1, 0, 0);
    sets(x, 1, 0, 0, 0);
    sets(x, 9, 1, 32, 32);
    sets(x, 18, 5, 0, 31);
    sets(x, 27, 5, 32, 63);
    sets(x, 90, 1, 31, 31);
    sets(x, 98, 0, 0, 0);
    x.ticks(1);
    sets(x, 0, 1, 0, 0);
    sets(x, 16, 5, 0, 31);
    sets(x, 80, 1, 31, 31);
    x = of("m99,0;p0;p1;p0;p0;d1;s9;");
    x.ticks(1);
    sets(x, 1, 1, 1, 1);
    x.ticks(1);
    sets(x, 1, 0, 0, 0);
  }

  private void sets(MusicBox x, int v, int many, int inAll, int inAny) {
    c.due("sets(" + v + ", 0)", x.sets(v, 0), many);
    c.due("sets(" + v + ", 1)", x.sets(v, 1), inAll);
    c.due("sets(" + v + ", 2)", x.sets(v, 2), inAny);
  }

  private void share(MusicBox x, int n, int... due) {
    for (int t = 0; t < due.length; t++) {
      c.due("share(" + t + ", " + n + ")", x.share(t, n), due[t]);
    }
  }

  private static MusicBox onePluck() {
    MusicBox x = of("m99,0;p0;p2;p0;p0;s1;s1;");
    x.ticks(1);
    return x;
  }

  private void shares() {
    c.says("each TOOTH that is not BROKEN gets as many as n times PLUCKED by all PLUCKED of these (cut), "
        + "what is over 1 each to the first ones that were PLUCKED");
    MusicBox x = of("m99,0;p0;p13;p0;p0;s1;s1;s1;s1;");
    x.ticks(1);
    share(x, 0, 0, 0, 0, 0);
    share(x, 1, 1, 0, 0, 0);
    share(x, 2, 1, 0, 1, 0);
    share(x, 3, 1, 0, 1, 1);
    share(x, 4, 2, 0, 1, 1);
    share(x, 5, 2, 0, 2, 1);
    share(x, 998, 333, 0, 333, 332);
    share(x, 999, 333, 0, 333, 333);
    x = of("m99,0;p0;p63;p32;p0;" + SIX);
    x.ticks(2);
    share(x, 6, 1, 1, 1, 1, 1, 1);
    share(onePluck(), 999, 0, 999);
    share(onePluck(), 1, 0, 1);
    share(x, 999, 143, 143, 143, 143, 142, 285);
    c.says("how many a TOOTH gets (0, if it is BROKEN, or none was).");
    x = of("m99,0;p3;p3;p3;p3;c1;s1;");
    share(x, 999, 0, 0);
    x.ticks(2);
    share(x, 9, 5, 4);
    x.ticks(1);
    share(x, 9, 0, 9);
    x.mend(0);
    share(x, 9, 0, 9);
    x = of("m99,0;p1;p1;p1;p1;c1;s1;");
    x.ticks(3);
    share(x, 999, 0, 0);
  }

  // ---- turns

  private void turns() {
    c.says("TURNS of two, n in all (0 to 4), m TICKS (1 to 20): the one sets the PIN of TOOTH 0 in the COLUMN behind that of THE DRUM, "
        + "if there is none, and draws it, if there is one, or does nothing");
    MusicBox x = of("m9,3;" + SILENT + "s5;");
    c.due("none: nothing is heard", x.byTurns(0, 1), 0);
    c.due("one: column 0 is behind the last", x.byTurns(1, 1), 10);
    x = of("m9,0;p0;p1;p0;p0;s5;");
    c.due("one: nothing is done", x.byTurns(1, 1), 10);
    x = of("m3,0;p0;p1;p2;p0;s1;d9;");
    c.due("none: the spring does not do", x.byTurns(0, 2), 0);
    c.due("one: it is drawn", x.byTurns(1, 2), 9);
    c.due("20 ticks", of("m9,0;p0;p0;p0;p0;r9;").byTurns(1, 20), 0);
    c.due("all now: the pin is set ahead of the first tick alone", of("m2,0;p0;p0;p0;p0;r9;").byTurns(3, 2), 8);

    c.says("then the other one winds it by 2 (99 at most), or does nothing, and so on, all now; then m TICKS: LOUD behind them; "
        + "the one wants it great, the other little: what comes of it.");
    // 18 and 9 fade to 16 and 8, if the spring is down by then; wound, the reed is plucked and rings by 1
    x = of("m2,0;p0;p1;p2;p0;t9;r1;");
    int[] due = {24, 24, 17, 17, 17};
    for (int n = 0; n <= 4; n++) {
      c.due("byTurns(" + n + ", 2)", x.byTurns(n, 2), due[n]);
    }
    // by 2 the spring does not do for the reed, by 4 it does
    x = of("m2,0;p0;p1;p0;p2;t9;r1;");
    int[] twice = {14 + 7, 14 + 7, 14 + 7, 14 + 7, 14 + 1};
    for (int n = 0; n <= 4; n++) {
      c.due("byTurns(" + n + ", 3)", x.byTurns(n, 3), twice[n]);
    }
    x = of("m2,0;p0;p1;p0;p0;p2;t9;r1;");
    int[] both = {12 + 6, 12 + 6, 12 + 6, 12 + 6, 12 + 1};
    for (int n = 0; n <= 4; n++) {
      c.due("byTurns(" + n + ", 4)", x.byTurns(n, 4), both[n]);
    }
    x = of("m11,0;p0;p1;p0;p0;r1;");
    c.due("wound it would ring by more: the other does nothing", x.byTurns(2, 1), 1);
  }

  private void turnsAtNinetyNine() {
    c.says("winds it by 2 (99 at most)");
    // each tick takes 5; with 99 the reed, stirred by 9, is not plucked in the twentieth; with 101 it were
    MusicBox x = of("m99,0;p15;p15;p15;p15;d1;d1;t9;r1;");
    c.due("nothing is done", x.byTurns(0, 20), 29);
    c.due("winding does not help", x.byTurns(2, 20), 29);
    c.due("nor twice", x.byTurns(4, 20), 29);
    x = of("m98,0;p15;p15;p15;p15;d1;d1;t9;r1;");
    c.due("from 98 the twin is not reached", x.byTurns(0, 20), 1 + 1 + 16);
    c.due("so the one draws the pin, and all are", x.byTurns(2, 20), 1 + 1 + 18 + 1);
  }

  // ---- what fits

  private void kindsAndTunings() {
    c.says("KINDS (bits 1 to 5), TUNINGS (1 to 9, bits) of a TOOTH by which it is so.");
    MusicBox x = of("m9,0;" + SILENT + "s5;s5;");
    x.row(0, 2, 13);
    c.due("all kinds are silent", x.who(1, 0, 0, 0, 12), 2 + 4 + 8 + 16 + 32);
    c.due("all tunings", x.who(1, 1, 0, 0, 12), 1022);
    x.set(0, 11, 1);
    c.due("but for the twelfth: no kind", x.who(1, 0, 0, 0, 12), 0);
    c.due("no tuning", x.who(1, 1, 0, 0, 12), 0);
    c.due("the first eleven", x.who(1, 0, 0, 0, 11), 62);
    x = of("m9,0;p0;p1;p0;p0;s5;s5;");
    Checks.fill(x, 0, 0, 2, 18, 20, 0, -1);
    c.due("the least tuning", x.who(0, 1, 0, 0, 1), 1 << 1);
    c.due("the greatest", x.who(0, 1, 0, 1, 1), 1 << 9);
    c.due("none is 10", x.who(0, 1, 0, 2, 1), 0);
    c.due("none is 0", x.who(0, 1, 0, 3, 1), 0);
    c.due("none is below", x.who(0, 1, 0, 4, 1), 0);
    Checks.fill(x, 0, 0, 15, 5);
    c.due("a twin stirs the next", x.who(0, 0, 0, 0, 1), 1 << 3);
    c.due("damped, a reed, a cracked one", x.who(0, 0, 0, 1, 1), 4 + 16 + 32);
    x = of("m90,0;p1;p1;p1;p1;c9;");
    x.ticks(3);
    Checks.fill(x, 0, 0, 15, 16, 8, 0);
    c.due("a broken one fades as steel, a twin", x.who(0, 0, 0, 0, 1), 2 + 8);
    c.due("as a reed", x.who(0, 0, 0, 1, 1), 16);
    c.due("as a cracked one", x.who(0, 0, 0, 2, 1), 32);
    c.due("as a damped one", x.who(0, 0, 0, 3, 1), 4);
    c.due("its tuning is not heard", x.who(0, 1, 0, 2, 1), 1022);
  }

  private void beginsAndSprings() {
    c.says("BEGINS (COLUMNS, bits) of THE DRUM now; SPRINGS (0 to 99) now: how many; the least; NONE.");
    MusicBox x = of("m50,3;" + TWELVE + "s9;");
    Checks.fill(x, 0, 0, 18, 16, 0, 0);
    c.due("the last", x.who(0, 2, 0, 0, 2), 1 << 11);
    c.due("all but the last", x.who(0, 2, 0, 2, 1), 2047);
    c.due("none", x.who(0, 2, 0, 1, 1), 0);
    c.due("all springs", x.who(0, 3, 0, 2, 2), 100);
    c.due("the least is 0", x.who(0, 4, 0, 2, 2), 0);
    c.due("no spring", x.who(0, 3, 0, 0, 2), 0);
    c.due("no least", x.who(0, 4, 0, 0, 2), NONE);
    c.due("no finding", x.status(), 0);
    x = of("m0,0;p0;p63;p0;p0;" + SIX);
    Checks.fill(x, 0, 0, 12, 0);
    c.due("from 7 to 99", x.who(0, 3, 0, 0, 1), 93);
    c.due("7", x.who(0, 4, 0, 0, 1), 7);
    c.due("0 and 1", x.who(0, 3, 0, 1, 1), 2);
    c.due("0", x.who(0, 4, 0, 1, 1), 0);
    x = of("m0,0;p0;p1;p0;p0;r9;");
    Checks.fill(x, 0, 0, 18);
    c.due("92 to 99", x.who(0, 3, 0, 0, 1), 8);
    c.due("92", x.who(0, 4, 0, 0, 1), 92);
  }

  // ---- chances

  private void chance(MusicBox x, int n, int p, long above, long below) {
    c.due("lost(0, " + n + ", " + p + ", 0)", x.lost(0, n, p, 0), above);
    c.due("lost(0, " + n + ", " + p + ", 1)", x.lost(0, n, p, 1), below);
  }

  private void lost() {
    c.says("LOST by p of 10 (0 to 10): each PIN of a told TOOTH is drawn now in p of 10 cases, apart: "
        + "how likely that TOOTH RINGS behind n TICKS (0 to 20): a fraction.");
    String all = "p1;p1;p1;p1;p1;p1;p1;p1;p1;p1;p1;p1;";
    MusicBox x = of("m99,0;" + all + "r9;");
    chance(x, 0, 5, 0, 1);
    chance(x, 1, 0, 1, 1);
    chance(x, 1, 10, 0, 1);
    chance(x, 1, 9, 1, 10);
    chance(x, 12, 1, 999999999999L, 1000000000000L);
    chance(x, 12, 10, 0, 1);
    chance(x, 12, 0, 1, 1);
    chance(x, 20, 5, 4095, 4096);
    chance(of("m99,0;p0;p1;p0;p0;d5;"), 17, 3, 7, 10);
    chance(of("m3,0;p0;p1;p0;p0;r1;"), 1, 5, 1, 2);
    chance(of("m3,0;p0;p1;p0;p0;r1;"), 2, 5, 0, 1);
    chance(of("m99,0;p0;p1;p0;p0;d5;"), 20, 3, 0, 1);
    // kept, the first takes the spring that the second needs: 3 of 10 times 7 of 10
    chance(of("m4,0;p0;p1;p1;p0;d5;"), 2, 3, 7, 10);
    chance(of("m3,0;p0;p1;p1;p0;d5;"), 2, 3, 21, 100);
    // plucked in the ticks 1, 2, 3 it is broken, and silent in the ninth: a half, but for an eighth of it
    chance(of("m99,3;p1;p0;p0;p0;p1;p1;p1;p0;p0;p0;p0;p0;c1;"), 9, 5, 7, 16);
    c.due("a pin of another tooth is not lost", of("m9,0;p0;p2;p0;p0;s1;t9;").lost(1, 1, 0, 0), 1);
    chance(of("m9,0;p0;p2;p0;p0;s1;s9;"), 1, 5, 0, 1);
    chance(of("m9,0;p0;p1;p0;p0;t9;s9;"), 1, 5, 1, 2);
    c.due("stirred, whatever is lost of its own", of("m9,0;p0;p1;p2;p0;t9;s9;").lost(1, 1, 10, 0), 1);

    c.says("All that is divided is cut towards 0, but fractions, told as two numbers in lowest terms (0 is 0 by 1).");
    chance(of("m9,0;p0;p1;p0;p0;s1;"), 1, 2, 4, 5);
    chance(of("m9,0;p0;p1;p0;p0;s1;"), 1, 5, 1, 2);
    chance(of("m9,0;p0;p1;p0;p0;s1;"), 1, 8, 1, 5);
    chance(of("m9,0;p0;p0;p0;p0;s1;"), 1, 5, 0, 1);
    chance(of("m0,0;p1;p1;p1;p1;s1;"), 20, 5, 0, 1);
    chance(of("m90,0;p0;p1;p1;p0;s5;"), 2, 4, 21, 25);
  }

  private void days(MusicBox x, int n, int seed, int plucks, int loud) {
    c.due("drawn(" + n + ", " + seed + ", 0)", x.drawn(n, seed, 0), plucks);
    c.due("drawn(" + n + ", " + seed + ", 1)", x.drawn(n, seed, 1), loud);
  }

  private void days() {
    c.says("DAYS of n TICKS (0 to 60) by a SEED (X at first): ahead of each X becomes the rest of (X times 16807) by 2147483647; "
        + "if SPRING is 0, SPRING is the rest of X by 30;");
    // of seed 30 the first X is 504210, which leaves 0; of 1 it is 16807, which leaves 7
    days(of("m0,0;p1;p1;p1;p1;s5;"), 0, 1, 0, 0);
    days(of("m0,0;p1;p1;p1;p1;s5;"), 1, 1, 1, 10);
    days(of("m0,0;p1;p1;p1;p1;s5;"), 1, 30, 0, 0);
    days(of("m0,0;p1;p1;p1;p1;s5;"), 1, 999999, 1, 10);
    // 1774597664 leaves 14: a reed behind 2 less rings by 9 and 1
    days(of("m0,0;p0;p1;p0;p0;r9;"), 1, 999999, 1, 10);
    days(of("m20,0;p0;p1;p0;p0;r9;"), 1, 999999, 1, 10);
    days(of("m30,0;p0;p1;p0;p0;r9;"), 1, 999999, 1, 11);
    c.says("else, if X by 3 leaves 0, PINS of the COLUMN that is the rest of X by how many there are are the rest of X by 64;");
    // 50421 leaves 0 by 3, 1 by 4, 53 by 64: teeth 0, 2, 4, 5; a second 847425747 leaves 0, 3, 19
    MusicBox x = of("m9,0;p63;p63;p63;p63;d1;d2;d3;d4;d5;d6;");
    days(x, 1, 3, 4, 1 + 3 + 5 + 6);
    days(of("m9,0;p0;p2;p0;p0;d1;d2;"), 1, 3, 1, 1);
    days(of("m0,0;p0;p2;p0;p0;d1;d2;"), 1, 3, 1, 2);
    days(of("m9,0;p0;p2;p0;p0;d1;d2;"), 1, 1, 1, 2);
    c.due("nothing is left of it", x.pins(1), 63);
    c.says("the TOOTH that is the rest of X by how many there are is mended, if it is BROKEN; then the TICK");
    x = of("m90,1;p1;p0;p1;p1;c9;s9;");
    x.ticks(3);
    x.drum(3);
    c.due("broken", x.stand(5), 1);
    // 1774597664 is even: tooth 0; 16807 is odd: tooth 1
    days(x, 1, 999999, 1, 17);
    days(x, 1, 1, 0, 8);
    x = of("m9,0;p0;p1;p0;p0;s9;");
    x.ticks(1);
    days(x, 1, 1, 0, 16);
    x = of("m6,1;p1;p0;p1;p1;c9;");
    x.ticks(3);
    x.drum(3);
    c.due("broken, the spring is down", x.stand(5) * 100 + x.stand(2), 100);
    days(x, 1, 1, 1, 9);
    x.wind(90);
    x.drum(0);
    // 50421: the pin of column 1 is set, and the tooth is mended, too
    days(x, 1, 3, 1, 9 + 8);
    c.says("how often one was PLUCKED in them; LOUD of all these TICKS, together.");
    days(of("m0,0;p1;p1;p1;p1;s5;"), 5, 1, 4, 48);
    c.due("60", of("m0,0;p1;p1;p1;p1;s5;").drawn(60, 1, 0) > 0 ? 1 : 0, 1);
  }

  // ---- asked

  private void kinds() {
    c.says("KINDS of TEETH: 0 TOOTH; 1 STEEL, a TOOTH; 2 DAMPED, a STEEL one; 3 TWIN, a STEEL one; 4 REED, a TOOTH; "
        + "5 CRACKED, a REED. By this it is asked.");
    MusicBox x = of("m9,0;" + SILENT + "s1;d1;t1;r1;c1;");
    int[] are = {3, 7, 11, 17, 49};
    for (int t = 0; t < 5; t++) {
      c.due("kind(" + t + ")", x.kind(t), t + 1);
      for (int k = 0; k <= 5; k++) {
        boolean is = (are[t] >> k & 1) == 1;
        c.due("as(" + t + ", " + k + ")", x.as(t, k), is ? t : -1000013);
      }
    }
  }

  private void asked(MusicBox x, int one, int what, int answer, int... trace) {
    c.due("ask(" + one + ", " + what + ")", x.ask(one, what), answer);
    for (int i = 0; i < trace.length; i++) {
      c.due("trace(" + i + ") of ask(" + one + ", " + what + ")", x.trace(i), trace[i]);
    }
    for (int i = trace.length; i <= 16; i++) {
      c.due("trace(" + i + ")", x.trace(i), NONE);
    }
  }

  private void bodies() {
    c.says("ASKS of TEETH, by BODIES, each of which leaves its number in THE TRACE as it begins (the first 16)");
    MusicBox x = of("m90,0;p0;p63;p0;p0;s9;d8;t7;r6;c5;s1;");
    asked(x, 0, 0, 9, 11, 10, 21, 20);
    asked(x, 0, 1, 0, 21, 20);
    asked(x, 5, 1, 5, 21, 20);
    c.says("0 SIZE: 10 lent to all TEETH: TUNED. 11 of STEEL ones: what 10 gives, and MARK. 12 of DAMPED ones: 0 less what 11 gives. "
        + "13 of REEDS: what 10 gives, less 100. 14 of CRACKED ones: what 13 gives, twice.");
    asked(x, 1, 0, -(8 + 2), 12, 11, 10, 24, 21, 20);
    asked(x, 2, 0, 7 + 2 - 1000, 11, 10, 22, 21, 20);
    asked(x, 3, 0, -94, 13, 10);
    asked(x, 4, 0, -190, 14, 13, 10);
    c.says("1 MARK: 20 lent to all TEETH: the number. 21 of STEEL ones: what 20 gives, and what it RINGS by. "
        + "22 of TWINS: what 21 gives, less 1000. 23 of REEDS: what 20 gives, less SIZE. 24 of DAMPED ones: what 21 gives, twice.");
    asked(x, 1, 1, 2, 24, 21, 20);
    asked(x, 2, 1, 2 - 1000, 22, 21, 20);
    asked(x, 3, 1, 3 + 94, 23, 20, 13, 10);
    asked(x, 4, 1, 4 + 190, 23, 20, 14, 13, 10);
    x.ticks(1);
    // they ring by 18, 8, 14, 6 and 8, 5 and 8, 2
    c.says("(Of an ask the BODY told for the KIND begins, else that of the nearest KIND that it is, too, else the one that is lent; "
        + "SIZE, MARK within others are asked of the same TOOTH anew.)");
    asked(x, 0, 0, 9 + 18, 11, 10, 21, 20);
    asked(x, 1, 0, -(8 + 18), 12, 11, 10, 24, 21, 20);
    asked(x, 1, 1, 2 * (1 + 8), 24, 21, 20);
    asked(x, 2, 0, 7 + 2 + 14 - 1000, 11, 10, 22, 21, 20);
    asked(x, 2, 1, 2 + 14 - 1000, 22, 21, 20);
    asked(x, 3, 0, 6 - 100, 13, 10);
    asked(x, 3, 1, 3 + 94, 23, 20, 13, 10);
    asked(x, 4, 0, 2 * (5 - 100), 14, 13, 10);
    asked(x, 4, 1, 4 + 190, 23, 20, 14, 13, 10);
    asked(x, 5, 0, 1 + 5 + 2, 11, 10, 21, 20);
  }

  private void trace() {
    c.says("`int trace(int i)`: Number i of THE TRACE; NONE.");
    MusicBox x = of("m90,0;" + SILENT + "d1;r1;");
    for (int i : new int[] {Integer.MIN_VALUE, -1, 0, 1, 15, 16, Integer.MAX_VALUE}) {
      c.due("trace(" + i + ") ahead of an ask", x.trace(i), NONE);
    }
    x.ask(0, 0);
    c.due("the first", x.trace(0), 12);
    c.due("the last", x.trace(5), 20);
    c.due("behind the last", x.trace(6), NONE);
    c.due("below the first", x.trace(-1), NONE);
    c.due("far off", x.trace(Integer.MAX_VALUE), NONE);
    c.says("THE TRACE is empty ahead of it.");
    x.ask(1, 0);
    c.due("a shorter one: the first", x.trace(0), 13);
    c.due("its last", x.trace(1), 10);
    c.due("behind it", x.trace(2), NONE);
    x.ask(2, 0);
    x.ask(0, 2);
    c.due("a refused ask leaves it", x.trace(1), 10);
    x.ticks(1);
    x.undo();
    c.due("so do other calls", x.trace(0), 13);
  }

  private void counts() {
    c.says("`int count(int what)`: How many: 0 ROWS, 1 TEETH, 2 COLUMNS, 3 TICK, 4 SPRING, 5 PLUCKED of all together, "
        + "6 ACTS that can be undone, 7 bytes on the tape.");
    MusicBox x = of("m99,0;" + TWELVE.replace("p0", "p63") + SIX);
    for (int r = 0; r < 8; r++) {
      x.row(r, 0, 0);
    }
    x.ticks(3);
    x.feed(0);
    int[] due = {8, 6, 12, 3, 99 - 21, 18, 3, 1};
    for (int what = 0; what < 8; what++) {
      c.due("count(" + what + ")", x.count(what), due[what]);
    }
    x.drop(0);
    c.due("a row less", x.count(0), 7);
    c.due("count(-1)", x.count(-1), BAD);
  }

  private void status() {
    c.says("`int status()`: Of the latest call with a ROW, or as(), that was not BAD, STATE, FULL: the number of its FINDING; "
        + "0: it had none, or there was none.");
    MusicBox x = new MusicBox();
    c.due("there was none", x.status(), 0);
    x.drop(0);
    c.due("NULL", x.status(), 1);
    x.drop(8);
    c.due("BAD: it stays", x.status(), 1);
    x.tune(0, 0, 1);
    c.due("STATE: it stays", x.status(), 1);
    Checks.read(x, "m9,0;" + SILENT + "s1;");
    x.ticks(1);
    x.ask(0, 0);
    x.kind(0);
    c.due("other calls: it stays", x.status(), 1);
    x.as(0, 2);
    c.due("KIND", x.status(), 3);
    x.as(0, 1);
    c.due("as: none", x.status(), 0);
    x.row(0, 0, -1);
    c.due("SIZE", x.status(), 4);
    x.row(0, 0, 1);
    c.due("row: none", x.status(), 0);
    x.set(0, 1, 0);
    c.due("PLACE", x.status(), 2);
    x.set(0, 0, 0);
    c.due("set: none", x.status(), 0);
    x.row(1, 1, 1);
    x.copy(0, 0, 1, 0, 1);
    c.due("STORE", x.status(), 5);
    x.copy(0, 0, 0, 0, 1);
    c.due("copy: none", x.status(), 0);
    x.tune(0, 1, 1);
    c.due("PLACE of tune", x.status(), 2);
    x.tune(0, 0, 1);
    c.due("tune: none", x.status(), 0);
    x.who(0, 4, 5, 0, 1);
    c.due("NULL of who", x.status(), 1);
    x.set(0, 0, 99);
    x.set(5, 0, 0);
    c.due("who is NONE", x.who(0, 4, 0, 0, 1), NONE);
    c.due("which is no finding", x.status(), 0);
    x.drop(5);
    x.drop(1);
    c.due("drop: none", x.status(), 0);
  }
}
