import java.util.function.ToLongBiFunction;

/**
 * Each number of each call, at the edges that its promise tells: the least and the most are taken, one less and one
 * more are BAD. Each call is on an object of its own.
 */
final class RangeEdges {
  private static final int BAD = -1000001, SIZE = -1000014;
  /** The least that there may be of columns and teeth, and the most. */
  private static final String SMALL = "m50,0;p1;p0;p1;p0;c5;";
  private static final String LARGE = "m99,3;p63;p0;p7;p1;p2;p4;p8;p16;p32;p0;p0;p9;s9;d9;t9;r9;c9;t1;";

  private interface Call extends ToLongBiFunction<MusicBox, Integer> {
  }

  private final Checks c;

  RangeEdges(Checks c) {
    this.c = c;
  }

  void all() {
    rows();
    told();
    done();
    seen();
    foretold();
    searched();
    chances();
    images();
    asked();
  }

  private static MusicBox prepared(String text) {
    MusicBox x = Checks.boxOf(text);
    for (int r = 0; r < 8; r++) {
      x.row(r, 2, 40);
    }
    x.ticks(4);
    x.image(0);
    x.image(1);
    return x;
  }

  private void takes(String number, Call call, int least, int most) {
    for (String text : new String[] {SMALL, LARGE}) {
      takes(number, call, text, least, most);
    }
  }

  private void takes(String number, Call call, String text, int least, int most) {
    for (int v : new int[] {least, (least + most) / 2, most}) {
      c.holds(number + " " + v + " is taken", call.applyAsLong(prepared(text), v) != BAD);
    }
    for (int v : new int[] {Integer.MIN_VALUE, least - 1, most + 1, Integer.MAX_VALUE}) {
      c.due(number + " " + v, call.applyAsLong(prepared(text), v), BAD);
    }
  }

  private void takesTeeth(String number, Call call) {
    takes(number, call, SMALL, 0, 0);
    takes(number, call, LARGE, 0, 5);
    c.due(number + " 0 without a box", call.applyAsLong(new MusicBox(), 0), BAD);
  }

  private void takesColumns(String number, Call call) {
    takes(number, call, SMALL, 0, 3);
    takes(number, call, LARGE, 0, 11);
    c.due(number + " 0 without a box", call.applyAsLong(new MusicBox(), 0), BAD);
  }

  // ---- rows

  private void rows() {
    c.says("`int row(int row, int lane, int n)`: A ROW of a LANE with n ITEMS, in place of what is there: n. "
        + "BAD: ROW, LANE, n above 40; SIZE.");
    takes("ROW", (x, v) -> x.row(v, 0, 1), 0, 7);
    takes("LANE", (x, v) -> x.row(0, v, 1), 0, 2);
    for (int n : new int[] {0, 1, 40}) {
      c.due("row(0, 0, " + n + ")", new MusicBox().row(0, 0, n), n);
    }
    c.due("41 items", new MusicBox().row(0, 0, 41), BAD);
    c.due("too many items", new MusicBox().row(0, 0, Integer.MAX_VALUE), BAD);
    c.due("fewer than none", new MusicBox().row(0, 0, -1), SIZE);
    c.due("the least number of items", new MusicBox().row(0, 0, Integer.MIN_VALUE), SIZE);

    c.says("`int set(int row, int i, int v)`: ITEM i becomes v, its lowest bits, as many as the LANE has: what it is then. "
        + "BAD: ROW; NULL; PLACE.");
    takes("ROW", (x, v) -> x.set(v, 0, 0), 0, 7);
    c.says("`int copy(int a, int i, int b, int j, int n)`: n ITEMS of a from i on come to b from j on, as they were ahead: n. "
        + "BAD: ROWS; NULL; STORE; PLACE (i, j, n below 0, or beyond an end).");
    takes("ROW a", (x, v) -> x.copy(v, 0, 0, 0, 1), 0, 7);
    takes("ROW b", (x, v) -> x.copy(0, 0, v, 0, 1), 0, 7);
    c.says("`int drop(int row)`: A ROW is missing from now on: how many ITEMS it had. BAD; NULL.");
    takes("ROW", (x, v) -> x.drop(v), 0, 7);
  }

  // ---- what is told

  private void told() {
    c.says("`int feed(int letter)`: A byte (0 to 255) comes behind the tape: how many it has. BAD; FULL.");
    takes("a byte", (x, v) -> x.feed(v), 0, 255);
  }

  // ---- what is done

  private void done() {
    c.says("`int ticks(int n)`: n TICKS (1 to 24), an ACT each: LOUD then.");
    takes("n", (x, v) -> x.ticks(v), 1, 24);
    c.says("`int wind(int n)`: Wound by n (1 to 99): SPRING then.");
    takes("n", (x, v) -> x.wind(v), 1, 99);
    c.says("`int pin(int column, int tooth)`: A PIN is set, or drawn: PINS of the COLUMN then (as told, bits). "
        + "BAD: a TOOTH that there is not, too.");
    takesColumns("COLUMN", (x, v) -> x.pin(v, 0));
    takesTeeth("TOOTH", (x, v) -> x.pin(0, v));
    c.says("`int drum(int column)`: THE DRUM is set: where it was. BAD; STATE: it is there.");
    takesColumns("COLUMN", (x, v) -> x.drum(v));
    c.says("`int mend(int tooth)`: A TOOTH is mended: how often it was PLUCKED. BAD; STATE: it is not BROKEN.");
    takesTeeth("TOOTH", (x, v) -> x.mend(v));
  }

  private void seen() {
    c.says("`int tooth(int tooth, int what)`: Of a TOOTH: 0 TUNED, 1 what it RINGS by, 2 how often it was PLUCKED, "
        + "3 whether it is BROKEN (1, 0), 4 COLUMNS in which it has a PIN (bits). BAD.");
    takesTeeth("TOOTH", (x, v) -> x.tooth(v, 0));
    takes("what", (x, v) -> x.tooth(0, v), 0, 4);
    c.says("`int pins(int column)`: PINS of a COLUMN (as told, bits). BAD.");
    takesColumns("COLUMN", (x, v) -> x.pins(v));
    c.says("`int stand(int what)`: 0 COLUMNS, 1 that of THE DRUM, 2 SPRING, 3 LOUD, 4 TEETH that RING (bits), "
        + "5 that are BROKEN.");
    takes("what", (x, v) -> x.stand(v), 0, 5);
  }

  // ---- foretold

  private void foretold() {
    c.says("AHEAD by n TICKS (0 to 60) of a TOOTH");
    takes("n", (x, v) -> x.ahead(0, v, 0), 0, 60);
    c.says("`int ahead(int tooth, int n, int what)`: AHEAD: what it RINGS by (what = 0), PLUCKED (1), BROKEN (2). BAD.");
    takesTeeth("TOOTH", (x, v) -> x.ahead(v, 0, 0));
    takes("what", (x, v) -> x.ahead(0, 0, v), 0, 2);
    c.says("HEARD behind n TICKS (0 to 60)");
    takes("n", (x, v) -> x.heard(v, 0), 0, 60);
    c.says("`int heard(int n, int what)`: HEARD: LOUD (what = 0), TEETH (1), COLUMN (2), SPRING (3).");
    takes("what", (x, v) -> x.heard(0, v), 0, 3);
    c.says("`int when(int tooth, int how)`: WHEN it RINGS (how = 0), is BROKEN (1); NONE. BAD.");
    takesTeeth("TOOTH", (x, v) -> x.when(v, 0));
    takes("how", (x, v) -> x.when(0, v), 0, 1);
    c.says("PIN for n TICKS (1 to 20)");
    takes("n", (x, v) -> x.bestPin(v, 0), 1, 20);
    c.says("`int bestPin(int n, int what)`: PIN: which (what = 0), how much (1).");
    takes("what", (x, v) -> x.bestPin(1, v), 0, 1);
    c.says("BEGIN for n TICKS (1 to 40)");
    takes("n", (x, v) -> x.begin(v, 0), 1, 40);
    c.says("`int begin(int n, int what)`: BEGIN: which (what = 0), how much (1).");
    takes("what", (x, v) -> x.begin(1, v), 0, 1);
    c.says("WIND for n TICKS (1 to 40)");
    takes("n", (x, v) -> x.least(v), 1, 40);
  }

  private void searched() {
    c.says("`int tune(int row, int i, int n)`: TUNE: n ITEMS of a ROW from i on (1 to 12).");
    takes("ROW", (x, v) -> x.tune(v, 0, 1), 0, 7);
    takes("n", (x, v) -> x.tune(0, 0, v), 1, 12);
    c.says("SETS of v (0 to 99)");
    takes("v", (x, v) -> x.sets(v, 0), 0, 99);
    c.says("`int sets(int v, int what)`: SETS: how many (what = 0), in all (1), in any (2).");
    takes("what", (x, v) -> x.sets(0, v), 0, 2);
    c.says("SHARE of n (0 to 999)");
    takes("n", (x, v) -> x.share(0, v), 0, 999);
    c.says("`int share(int tooth, int n)`: SHARE. BAD.");
    takesTeeth("TOOTH", (x, v) -> x.share(v, 1));
    c.says("TURNS of two, n in all (0 to 4), m TICKS (1 to 20)");
    takes("n", (x, v) -> x.byTurns(v, 1), 0, 4);
    takes("m", (x, v) -> x.byTurns(1, v), 1, 20);
    c.says("A row tells LOUD behind each of n TICKS (1 to 12) from now on.");
    takes("n", (x, v) -> x.who(0, 0, 0, 0, v), 1, 12);
    c.says("`int who(int tooth, int which, int row, int i, int n)`: KINDS (which = 0), TUNINGS (1) of a TOOTH, BEGINS (2), "
        + "SPRINGS (3 how many, 4 the least; NONE), n ITEMS of a ROW from i on. BAD: TOOTH, which, ROW, n; NULL; PLACE.");
    for (int which = 0; which < 5; which++) {
      int w = which;
      takesTeeth("TOOTH, which is " + w, (x, v) -> x.who(v, w, 0, 0, 1));
    }
    takes("which", (x, v) -> x.who(0, v, 0, 0, 1), 0, 4);
    takes("ROW", (x, v) -> x.who(0, 0, v, 0, 1), 0, 7);
  }

  private void chances() {
    c.says("LOST by p of 10 (0 to 10)");
    takes("p", (x, v) -> x.lost(0, 1, v, 0), 0, 10);
    c.says("how likely that TOOTH RINGS behind n TICKS (0 to 20)");
    takes("n", (x, v) -> x.lost(0, v, 5, 0), 0, 20);
    c.says("`long lost(int tooth, int n, int p, int what)`: LOST: above (what = 0), below (1). BAD.");
    takesTeeth("TOOTH", (x, v) -> x.lost(v, 1, 5, 0));
    takes("what", (x, v) -> x.lost(0, 1, 5, v), 0, 1);
    c.says("DAYS of n TICKS (0 to 60) by a SEED");
    takes("n", (x, v) -> x.drawn(v, 1, 0), 0, 60);
    c.says("`int drawn(int n, int seed, int what)`: DAYS by a SEED (1 to 999999): how often (what = 0), LOUD (1).");
    takes("SEED", (x, v) -> x.drawn(1, v, 0), 1, 999999);
    takes("what", (x, v) -> x.drawn(1, 1, v), 0, 1);
  }

  private void images() {
    c.says("`int image(int k)`: An IMAGE (0, 1) is kept of the BOX: 1. BAD; STATE: no BOX.");
    takes("IMAGE", (x, v) -> x.image(v), 0, 1);
    c.says("`int restore(int k)`: The BOX is as an IMAGE kept it (no ACT can be undone then): 1. BAD; STATE: none was kept.");
    takes("IMAGE", (x, v) -> x.restore(v), 0, 1);
  }

  // ---- asked

  private void asked() {
    c.says("`int kind(int one)`: The KIND of a TOOTH, as told (1 to 5). BAD.");
    takesTeeth("TOOTH", (x, v) -> x.kind(v));
    c.says("`int as(int one, int kind)`: A TOOTH is taken as one of a KIND (0 .. 5): its number. BAD; KIND: it is no such one.");
    takesTeeth("TOOTH", (x, v) -> x.as(v, 0));
    takes("KIND", (x, v) -> x.as(0, v), 0, 5);
    c.says("`int ask(int one, int what)`: An ASK (0, 1) of a TOOTH. BAD. THE TRACE is empty ahead of it.");
    takesTeeth("TOOTH", (x, v) -> x.ask(v, 0));
    takes("ASK", (x, v) -> x.ask(0, v), 0, 1);
    c.says("`int count(int what)`: How many: 0 ROWS, 1 TEETH, 2 COLUMNS, 3 TICK, 4 SPRING, 5 PLUCKED of all together, "
        + "6 ACTS that can be undone, 7 bytes on the tape. BAD.");
    takes("what", (x, v) -> x.count(v), 0, 7);
  }
}
