import java.util.List;
import java.util.function.Supplier;
import java.util.function.ToLongFunction;

/** Refused calls: which refusal comes first, and that nothing else comes of it; foretelling changes nothing, either. */
final class RefusalEdges {
  private static final int BAD = -1000001, STATE = -1000002, FULL = -1000003;
  private static final int NULL = -1000011, PLACE = -1000012, KIND = -1000013, SIZE = -1000014, STORE = -1000015;
  private static final int FINDINGS = -1000010;
  private static final String TEXT = "m40,1;p5;p18;p32;p7;s4;t3;c6;";

  private interface Call extends ToLongFunction<MusicBox> {
  }

  private final Checks c;

  RefusalEdges(Checks c) {
    this.c = c;
  }

  void all() {
    nothingComesOfRefusals();
    nothingComesOfRefusalsWithoutABox();
    nothingComesOfFullness();
    nothingComesOfFaults();
    nothingComesOfForetelling();
    badIsFirst();
    stateIsAheadOfBad();
    findingsComeInTime();
  }

  /** Rows, acts, an image, a trace, a fault, bytes on the tape, a broken tooth (2); status() is 1. */
  private static MusicBox rich() {
    MusicBox x = new MusicBox();
    Checks.read(x, "m9,4");
    Checks.read(x, TEXT);
    x.ticks(4);
    x.image(1);
    x.ticks(5);
    x.wind(5);
    x.pin(0, 1);
    x.drum(1);
    Checks.fill(x, 0, 0, 7, 2, 0, 5);
    Checks.fill(x, 1, 1, 7, 0);
    x.row(2, 2, 0);
    x.row(7, 2, 40);
    x.ask(1, 0);
    Checks.feed(x, "m9");
    x.set(5, 0, 0);
    return x;
  }

  private static MusicBox withoutABox() {
    MusicBox x = new MusicBox();
    Checks.read(x, "m9,4");
    Checks.fill(x, 0, 0, 7, 2, 0, 5);
    x.row(1, 1, 1);
    Checks.feed(x, "m9");
    x.set(5, 0, 0);
    return x;
  }

  private static MusicBox withAFullTape() {
    MusicBox x = rich();
    for (int bytes = x.count(7); bytes < 100; bytes++) {
      x.feed('z');
    }
    return x;
  }

  private static MusicBox atTick999() {
    MusicBox x = rich();
    for (int left = 999 - x.count(3); left > 0; left -= Math.min(24, left)) {
      x.ticks(Math.min(24, left));
    }
    return x;
  }

  private void refused(String call, Supplier<MusicBox> made, Call refusal, long answer) {
    MusicBox x = made.get();
    int statusBefore = x.status();
    c.due(call, refusal.applyAsLong(x), answer);
    boolean found = answer < FINDINGS;
    c.due("status() behind " + call, x.status(), found ? FINDINGS - answer : statusBefore);
    sameAs(made.get(), x, call);
  }

  private void sameAs(MusicBox untouched, MusicBox x, String call) {
    List<String> due = Look.at(untouched);
    List<String> got = Look.at(x);
    c.due("how much is seen behind " + call, got.size(), due.size());
    for (int i = 0; i < Math.min(due.size(), got.size()); i++) {
      c.holds(got.get(i) + " behind " + call + ", due is " + due.get(i), got.get(i).equals(due.get(i)));
    }
  }

  private void refused(String call, Call refusal, long answer) {
    refused(call, RefusalEdges::rich, refusal, answer);
  }

  // ---- nothing comes of it

  private void nothingComesOfRefusals() {
    c.says("What is refused, or found, changes nothing but status().");
    c.due("acts that could be changed", rich().count(6), 12);
    c.due("a broken tooth that could be changed", rich().stand(5), 4);
    refused("row(8, 0, 1)", x -> x.row(8, 0, 1), BAD);
    refused("row(0, 3, 1)", x -> x.row(0, 3, 1), BAD);
    refused("row(0, 2, 41)", x -> x.row(0, 2, 41), BAD);
    refused("row(0, 2, -1)", x -> x.row(0, 2, -1), SIZE);
    refused("row(4, 2, -1)", x -> x.row(4, 2, -1), SIZE);
    refused("set(8, 0, 1)", x -> x.set(8, 0, 1), BAD);
    refused("set(6, 0, 1)", x -> x.set(6, 0, 1), NULL);
    refused("set(0, 4, 1)", x -> x.set(0, 4, 1), PLACE);
    refused("set(0, -1, 1)", x -> x.set(0, -1, 1), PLACE);
    refused("copy(8, 0, 0, 0, 1)", x -> x.copy(8, 0, 0, 0, 1), BAD);
    refused("copy(0, 0, 8, 0, 1)", x -> x.copy(0, 0, 8, 0, 1), BAD);
    refused("copy(0, 0, 6, 0, 1)", x -> x.copy(0, 0, 6, 0, 1), NULL);
    refused("copy(6, 0, 0, 0, 1)", x -> x.copy(6, 0, 0, 0, 1), NULL);
    refused("copy(0, 0, 1, 0, 1)", x -> x.copy(0, 0, 1, 0, 1), STORE);
    refused("copy(0, 0, 0, 2, 3)", x -> x.copy(0, 0, 0, 2, 3), PLACE);
    refused("copy(0, 2, 0, 0, 3)", x -> x.copy(0, 2, 0, 0, 3), PLACE);
    refused("drop(8)", x -> x.drop(8), BAD);
    refused("drop(6)", x -> x.drop(6), NULL);
    refused("feed(256)", x -> x.feed(256), BAD);
    refused("feed(-1)", x -> x.feed(-1), BAD);
    refused("ticks(0)", x -> x.ticks(0), BAD);
    refused("ticks(25)", x -> x.ticks(25), BAD);
    refused("wind(0)", x -> x.wind(0), BAD);
    refused("wind(100)", x -> x.wind(100), BAD);
    refused("pin(4, 0)", x -> x.pin(4, 0), BAD);
    refused("pin(0, 3)", x -> x.pin(0, 3), BAD);
    refused("pin(1, 4), where one is told", x -> x.pin(1, 4), BAD);
    refused("drum(4)", x -> x.drum(4), BAD);
    refused("drum(1), where it is", x -> x.drum(1), STATE);
    refused("mend(3)", x -> x.mend(3), BAD);
    refused("mend(0), which is not broken", x -> x.mend(0), STATE);
    refused("tooth(0, 5)", x -> x.tooth(0, 5), BAD);
    refused("pins(4)", x -> x.pins(4), BAD);
    refused("stand(6)", x -> x.stand(6), BAD);
    refusedForetelling();
    refusedAsking();
  }

  private void refusedForetelling() {
    refused("ahead(0, 61, 0)", x -> x.ahead(0, 61, 0), BAD);
    refused("heard(61, 0)", x -> x.heard(61, 0), BAD);
    refused("when(0, 2)", x -> x.when(0, 2), BAD);
    refused("bestPin(21, 0)", x -> x.bestPin(21, 0), BAD);
    refused("begin(41, 0)", x -> x.begin(41, 0), BAD);
    refused("least(41)", x -> x.least(41), BAD);
    refused("tune(8, 0, 1)", x -> x.tune(8, 0, 1), BAD);
    refused("tune(0, 0, 13)", x -> x.tune(0, 0, 13), BAD);
    refused("tune(6, 0, 1)", x -> x.tune(6, 0, 1), NULL);
    refused("tune(0, 0, 5)", x -> x.tune(0, 0, 5), PLACE);
    refused("sets(100, 0)", x -> x.sets(100, 0), BAD);
    refused("share(0, 1000)", x -> x.share(0, 1000), BAD);
    refused("byTurns(5, 1)", x -> x.byTurns(5, 1), BAD);
    refused("who(3, 0, 0, 0, 1)", x -> x.who(3, 0, 0, 0, 1), BAD);
    refused("who(0, 0, 6, 0, 1)", x -> x.who(0, 0, 6, 0, 1), NULL);
    refused("who(0, 0, 0, 4, 1)", x -> x.who(0, 0, 0, 4, 1), PLACE);
    refused("lost(0, 21, 1, 0)", x -> x.lost(0, 21, 1, 0), BAD);
    refused("drawn(61, 1, 0)", x -> x.drawn(61, 1, 0), BAD);
    refused("image(2)", x -> x.image(2), BAD);
    refused("restore(2)", x -> x.restore(2), BAD);
    refused("restore(0), which was not kept", x -> x.restore(0), STATE);
  }

  private void refusedAsking() {
    refused("kind(3)", x -> x.kind(3), BAD);
    refused("as(3, 0)", x -> x.as(3, 0), BAD);
    refused("as(0, 6)", x -> x.as(0, 6), BAD);
    refused("as(0, 2)", x -> x.as(0, 2), KIND);
    refused("ask(3, 0)", x -> x.ask(3, 0), BAD);
    refused("ask(0, 2)", x -> x.ask(0, 2), BAD);
    refused("count(8)", x -> x.count(8), BAD);
  }

  private void refusedThere(String call, Call refusal, long answer) {
    refused(call + " without a box", RefusalEdges::withoutABox, refusal, answer);
  }

  private void nothingComesOfRefusalsWithoutABox() {
    c.says("A BOX that is read stands in place of the one before (none at first)");
    refusedThere("undo()", x -> x.undo(), STATE);
    refusedThere("ticks(1)", x -> x.ticks(1), STATE);
    refusedThere("wind(1)", x -> x.wind(1), STATE);
    refusedThere("pin(0, 0)", x -> x.pin(0, 0), BAD);
    refusedThere("drum(0)", x -> x.drum(0), BAD);
    refusedThere("drum(1)", x -> x.drum(1), BAD);
    refusedThere("mend(0)", x -> x.mend(0), BAD);
    refusedThere("tooth(0, 0)", x -> x.tooth(0, 0), BAD);
    refusedThere("pins(0)", x -> x.pins(0), BAD);
    refusedThere("stand(0)", x -> x.stand(0), STATE);
    refusedThere("ahead(0, 0, 0)", x -> x.ahead(0, 0, 0), BAD);
    refusedThere("heard(0, 0)", x -> x.heard(0, 0), STATE);
    refusedThere("when(0, 0)", x -> x.when(0, 0), BAD);
    refusedThere("stops()", x -> x.stops(), STATE);
    refusedThere("bestPin(1, 0)", x -> x.bestPin(1, 0), STATE);
    refusedThere("begin(1, 0)", x -> x.begin(1, 0), STATE);
    refusedThere("least(1)", x -> x.least(1), STATE);
    refusedThere("tune(0, 0, 1)", x -> x.tune(0, 0, 1), STATE);
    refusedThere("sets(0, 0)", x -> x.sets(0, 0), STATE);
    refusedThere("share(0, 0)", x -> x.share(0, 0), BAD);
    refusedThere("byTurns(0, 1)", x -> x.byTurns(0, 1), STATE);
    refusedThere("who(0, 0, 0, 0, 1)", x -> x.who(0, 0, 0, 0, 1), BAD);
    refusedThere("lost(0, 0, 0, 1)", x -> x.lost(0, 0, 0, 1), BAD);
    refusedThere("drawn(0, 1, 0)", x -> x.drawn(0, 1, 0), STATE);
    refusedThere("image(0)", x -> x.image(0), STATE);
    refusedThere("restore(0)", x -> x.restore(0), STATE);
    refusedThere("kind(0)", x -> x.kind(0), BAD);
    refusedThere("as(0, 0)", x -> x.as(0, 0), BAD);
    refusedThere("ask(0, 0)", x -> x.ask(0, 0), BAD);
  }

  private void nothingComesOfFullness() {
    c.says("THE TAPE has at most 100 bytes, that come one by one");
    c.due("the hundredth is there", withAFullTape().count(7), 100);
    refused("feed('a') to a full tape", RefusalEdges::withAFullTape, x -> x.feed('a'), FULL);
    c.says("BAD; STATE: no BOX (ahead of BAD); FULL: TICK would be above 999.");
    c.due("999 is reached", atTick999().count(3), 999);
    refused("ticks(1) at 999", RefusalEdges::atTick999, x -> x.ticks(1), FULL);
    Supplier<MusicBox> at996 = () -> undone(atTick999(), 3);
    refused("ticks(4) at 996: not even three of them", at996, x -> x.ticks(4), FULL);
    c.holds("ticks(3) at 996", at996.get().ticks(3) >= 0);
    refused("undo() with no act left", () -> undone(rich(), 12), x -> x.undo(), STATE);
  }

  private static MusicBox undone(MusicBox x, int n) {
    for (int i = 0; i < n; i++) {
      x.undo();
    }
    return x;
  }

  private void nothingComesOfFaults() {
    c.says("-1000100 less the place of a FAULT: all stays.");
    MusicBox x = rich();
    c.due("box() of m9", x.box(), -1000102);
    c.due("the tape is empty", x.count(7), 0);
    c.due("fault()", x.fault(), 1);
    c.due("status() is not about it", x.status(), 1);
    Checks.read(x, "m9,4");
    Checks.feed(x, "m9");
    sameAs(rich(), x, "a fault, then the tape as it was");
    x = rich();
    Checks.read(x, ",0;p1;p2;p3;p4;s1;d1;t1;r1;c1;s1;s");
    c.due("the last tooth is one too many: teeth", x.count(1), 3);
    c.due("columns", x.count(2), 4);
    c.due("the spring", x.stand(2), 25);
  }

  private void foretold(String call, Call foretelling) {
    MusicBox x = rich();
    c.holds(call + " is answered", foretelling.applyAsLong(x) > BAD);
    sameAs(rich(), x, call);
  }

  private void nothingComesOfForetelling() {
    c.says("FORETOLD (nothing changes).");
    foretold("ahead(0, 60, 0)", x -> x.ahead(0, 60, 0));
    foretold("heard(60, 0)", x -> x.heard(60, 0));
    foretold("when(2, 1)", x -> x.when(2, 1));
    foretold("when(0, 0)", x -> x.when(0, 0));
    foretold("stops()", x -> x.stops());
    foretold("bestPin(20, 0)", x -> x.bestPin(20, 0));
    foretold("begin(40, 0)", x -> x.begin(40, 0));
    foretold("least(40)", x -> x.least(40));
    foretold("tune(0, 0, 4)", x -> x.tune(0, 0, 4));
    foretold("sets(4, 0)", x -> x.sets(4, 0));
    foretold("share(0, 999)", x -> x.share(0, 999));
    foretold("byTurns(4, 20)", x -> x.byTurns(4, 20));
    for (int which = 0; which < 5; which++) {
      int w = which;
      foretold("who(1, " + w + ", 7, 0, 12)", x -> x.who(1, w, 7, 0, 12));
    }
    foretold("lost(0, 20, 5, 0)", x -> x.lost(0, 20, 5, 0));
    foretold("drawn(60, 7, 0)", x -> x.drawn(60, 7, 0));
  }

  // ---- which comes first

  private void badIsFirst() {
    c.says("Refusals are answers, the first of these that fits, but as told: BAD (a number is not as told; there is no such thing), "
        + "STATE (as told), FULL (as told), then FINDINGS");
    c.due("BAD ahead of STATE: image", new MusicBox().image(2), BAD);
    c.due("BAD ahead of STATE: restore", new MusicBox().restore(-1), BAD);
    c.due("BAD ahead of FULL: feed", withAFullTape().feed(256), BAD);
    c.due("BAD ahead of FULL: ticks", atTick999().ticks(25), BAD);
    c.due("BAD ahead of SIZE: the row", rich().row(8, 0, -1), BAD);
    c.due("BAD ahead of SIZE: the lane", rich().row(0, 3, -1), BAD);
    c.due("BAD ahead of NULL: copy", rich().copy(6, 0, 8, 0, 0), BAD);
    c.due("BAD ahead of NULL: copy, the other way", rich().copy(8, 0, 6, 0, 0), BAD);
    c.due("BAD ahead of NULL: tune", rich().tune(6, 0, 0), BAD);
    c.due("BAD ahead of PLACE: tune", rich().tune(0, -1, 13), BAD);
    c.due("BAD ahead of NULL: who, which", rich().who(0, 5, 6, 0, 1), BAD);
    c.due("BAD ahead of NULL: who, n", rich().who(0, 0, 6, 0, 0), BAD);
    c.due("BAD ahead of PLACE: who, a tooth", rich().who(3, 0, 0, 9, 1), BAD);
    c.due("BAD ahead of KIND: as", rich().as(3, 2), BAD);
  }

  private void stateIsAheadOfBad() {
    c.says("`int ticks(int n)`: n TICKS (1 to 24), an ACT each: LOUD then. BAD; STATE: no BOX (ahead of BAD)");
    c.due("ticks", new MusicBox().ticks(0), STATE);
    c.says("`int wind(int n)`: Wound by n (1 to 99): SPRING then. BAD; STATE: no BOX (ahead of BAD).");
    c.due("wind", new MusicBox().wind(100), STATE);
    c.says("5 that are BROKEN. BAD; STATE: no BOX (ahead of BAD).");
    c.due("stand", new MusicBox().stand(-1), STATE);
    c.says("COLUMN (2), SPRING (3). BAD; STATE: no BOX (ahead of BAD).");
    c.due("heard", new MusicBox().heard(61, 9), STATE);
    c.says("PIN: which (what = 0), how much (1). BAD; STATE: no BOX (ahead of BAD).");
    c.due("bestPin", new MusicBox().bestPin(0, 9), STATE);
    c.says("BEGIN: which (what = 0), how much (1). BAD; STATE: no BOX (ahead of BAD).");
    c.due("begin", new MusicBox().begin(0, 9), STATE);
    c.says("`int least(int n)`: WIND; NONE. BAD; STATE: no BOX (ahead of BAD).");
    c.due("least", new MusicBox().least(0), STATE);
    c.says("BAD: ROW, n; STATE: no BOX (ahead of BAD); NULL; PLACE.");
    c.due("tune, ahead of BAD", new MusicBox().tune(8, 0, 0), STATE);
    c.due("tune, ahead of NULL", new MusicBox().tune(0, 0, 1), STATE);
    c.says("in all (1), in any (2). BAD; STATE: no BOX (ahead of BAD).");
    c.due("sets", new MusicBox().sets(100, 9), STATE);
    c.says("`int byTurns(int n, int m)`: TURNS. BAD; STATE: no BOX (ahead of BAD).");
    c.due("byTurns", new MusicBox().byTurns(5, 0), STATE);
    c.says("how often (what = 0), LOUD (1). BAD; STATE: no BOX (ahead of BAD).");
    c.due("drawn", new MusicBox().drawn(61, 0, 9), STATE);
    c.says("`int stops()`: STOPS; NONE. STATE: no BOX.");
    c.due("stops", new MusicBox().stops(), STATE);
    c.says("`int undo()`: The latest ACT is undone: how many can be undone yet. STATE: none.");
    c.due("undo", new MusicBox().undo(), STATE);
    c.due("undo behind a box", Checks.boxOf(TEXT).undo(), STATE);
  }

  private void findingsComeInTime() {
    c.says("then FINDINGS, of several the first in time: -1000010 less 1 NULL (a ROW that is missing), "
        + "2 PLACE (no such place of a ROW), 3 KIND (a TOOTH that is not that), 4 SIZE (fewer than none), "
        + "5 STORE (ROWS of two LANES).");
    c.due("NULL ahead of PLACE: set", rich().set(6, -1, 0), NULL);
    c.due("NULL ahead of PLACE: tune", rich().tune(6, -1, 1), NULL);
    c.due("NULL ahead of PLACE: who", rich().who(0, 0, 6, -1, 1), NULL);
    c.due("NULL ahead of PLACE: copy", rich().copy(6, -1, 0, 0, 0), NULL);
    c.due("NULL ahead of PLACE: copy, the other is missing", rich().copy(0, -1, 6, 0, 0), NULL);
    c.due("NULL: both are missing", rich().copy(5, 0, 6, 0, 0), NULL);
    c.due("STORE ahead of PLACE: copy", rich().copy(0, -1, 1, 0, 1), STORE);
    c.due("STORE, though there is nothing to copy", rich().copy(0, 0, 1, 0, 0), STORE);
    c.due("STORE, bytes to ints", rich().copy(0, 0, 7, 0, 1), STORE);
    c.due("STORE, ints to shorts", rich().copy(7, 0, 1, 0, 1), STORE);
    c.due("a dropped row has no lane", dropped().copy(1, 0, 0, 0, 1), NULL);
  }

  private static MusicBox dropped() {
    MusicBox x = rich();
    x.drop(1);
    return x;
  }
}
