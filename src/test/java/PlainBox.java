import java.math.BigInteger;
import java.util.ArrayList;
import java.util.Arrays;
import java.util.List;
import java.util.function.Consumer;
import java.util.function.Predicate;
import java.util.function.ToIntFunction;
import java.util.regex.Matcher;
import java.util.regex.Pattern;

/**
 * The document told once more, with other means than the program's (objects that are copied, lists, patterns, all
 * cases tried out one by one), so that a slip in one of the two shows as a difference.
 */
final class PlainBox {
  static final int NONE = -1000000, BAD = -1000001, STATE = -1000002, FULL = -1000003;

  // ---- teeth, whose asks go by Java's own classes

  interface Lent {
    int number();
    int tuned();
    void leave(int body);
    default int size() { leave(10); return tuned(); }
    default int mark() { leave(20); return number(); }
  }

  abstract static class Tooth implements Lent, Cloneable {
    int number, tuned, rings, plucked;
    boolean broken;
    List<Integer> trace = new ArrayList<>();
    @Override public int number() { return number; }
    @Override public int tuned() { return tuned; }
    @Override public void leave(int body) { if (trace.size() < 16) trace.add(body); }
    abstract int fade();
    abstract int struck(int spring);
    Tooth twin() {
      try { return (Tooth) clone(); } catch (CloneNotSupportedException e) { throw new IllegalStateException(e); }
    }
  }
  static class Steel extends Tooth {
    @Override int fade() { return rings < 2 ? 0 : rings - 2; }
    @Override int struck(int spring) { return tuned + tuned; }
    @Override public int size() { leave(11); int ten = lentSize(); return ten + mark(); }
    @Override public int mark() { leave(21); int twenty = lentMark(); return twenty + rings; }
    int lentSize() { return super.size(); }
    int lentMark() { return super.mark(); }
  }
  static final class Damped extends Steel {
    @Override int fade() { return 0; }
    @Override int struck(int spring) { return tuned; }
    @Override public int size() { leave(12); return 0 - super.size(); }
    @Override public int mark() { leave(24); return super.mark() * 2; }
  }
  static final class Twin extends Steel {
    @Override public int mark() { leave(22); return super.mark() - 1000; }
  }
  static class Reed extends Tooth {
    @Override int fade() { return rings < 1 ? 0 : rings - 1; }
    @Override int struck(int spring) { return tuned + spring / 10; }
    @Override public int size() { leave(13); return super.size() - 100; }
    @Override public int mark() { leave(23); int twenty = super.mark(); return twenty - size(); }
  }
  static final class Cracked extends Reed {
    @Override int fade() { return rings / 2; }
    @Override public int size() { leave(14); return super.size() * 2; }
  }

  static Tooth made(int kind) {
    return kind == 1 ? new Steel() : kind == 2 ? new Damped() : kind == 3 ? new Twin() : kind == 4 ? new Reed() : new Cracked();
  }

  static final List<Class<?>> KINDS = List.of(Tooth.class, Steel.class, Damped.class, Twin.class, Reed.class, Cracked.class);

  // ---- a box

  static final class Drum {
    List<Integer> pins = new ArrayList<>();
    List<Tooth> teeth = new ArrayList<>();
    int spring, at, tick, plucks;

    Drum twin() {
      Drum d = new Drum();
      d.pins.addAll(pins);
      for (Tooth t : teeth) d.teeth.add(t.twin());
      d.spring = spring;
      d.at = at;
      d.tick = tick;
      d.plucks = plucks;
      return d;
    }

    Drum after(int n) {
      Drum d = twin();
      for (int i = 0; i < n; i++) d.tick();
      return d;
    }

    Drum with(Consumer<Drum> change) {
      Drum d = twin();
      change.accept(d);
      return d;
    }

    void tick() {
      for (Tooth t : teeth) t.rings = t.fade();
      tick++;
      if (spring == 0) return;
      at = (at + 1) % pins.size();
      spring--;
      for (Tooth t : teeth) {
        boolean pinned = (pins.get(at) & 1 << t.number) != 0;
        if (!pinned || t.broken || spring == 0) continue;
        spring--;
        plucks++;
        if (t.plucked < 99) t.plucked++;
        t.rings = t.struck(spring);
        if (t instanceof Cracked && t.plucked > 2) t.broken = true;
        if (t instanceof Twin && t.number + 1 < teeth.size()) {
          Tooth next = teeth.get(t.number + 1);
          if (!next.broken && next.rings < t.tuned) next.rings = t.tuned;
        }
      }
    }

    int loud() { return teeth.stream().mapToInt(t -> t.rings).sum(); }
    int bits(Predicate<Tooth> which) { return teeth.stream().filter(which).mapToInt(t -> 1 << t.number).sum(); }
    void toggle(int column, int tooth) { pins.set(column, pins.get(column) ^ 1 << tooth); }
    void wind(int n) { spring = spring + n > 99 ? 99 : spring + n; }
    void mend(int tooth) { Tooth t = teeth.get(tooth); t.broken = false; t.plucked = 0; t.rings = 0; }
    List<Integer> louds(int n) {
      List<Integer> all = new ArrayList<>();
      Drum d = twin();
      for (int i = 0; i < n; i++) { d.tick(); all.add(d.loud()); }
      return all;
    }
    int loudSum(int n) { return louds(n).stream().mapToInt(Integer::intValue).sum(); }
    void become(int tooth, int kind) {
      Tooth old = teeth.get(tooth), t = made(kind);
      t.number = old.number;
      t.tuned = old.tuned;
      t.rings = old.rings;
      t.plucked = old.plucked;
      t.broken = old.broken;
      teeth.set(tooth, t);
    }
  }

  // ---- what is kept

  private Drum drum;
  private final List<Drum> past = new ArrayList<>();
  private final Drum[] images = new Drum[2];
  private final int[][] rows = new int[8][];
  private final int[] lanes = new int[8];
  private String tape = "";
  private int fault, status;
  private List<Integer> trace = List.of();

  private static boolean in(int v, int least, int most) { return v >= least && v <= most; }
  private boolean noTooth(int t) { return drum == null || !in(t, 0, drum.teeth.size() - 1); }
  private boolean noColumn(int c) { return drum == null || !in(c, 0, drum.pins.size() - 1); }
  private int found(int f) { status = f; return -1000010 - f; }
  private int fine(int v) { status = 0; return v; }
  private static boolean outside(int[] row, int i, int n) { return i < 0 || n < 0 || (long) i + n > row.length; }
  private void act(Consumer<Drum> change) {
    past.add(drum.twin());
    if (past.size() > 24) past.remove(0);
    change.accept(drum);
  }

  // ---- rows

  int row(int row, int lane, int n) {
    if (!in(row, 0, 7) || !in(lane, 0, 2) || n > 40) return BAD;
    if (n < 0) return found(4);
    rows[row] = new int[n];
    lanes[row] = lane;
    return fine(n);
  }
  int set(int row, int i, int v) {
    if (!in(row, 0, 7)) return BAD;
    if (rows[row] == null) return found(1);
    if (outside(rows[row], i, 1)) return found(2);
    int unused = 32 - (8 << lanes[row]);
    return fine(rows[row][i] = v << unused >> unused);
  }
  int copy(int a, int i, int b, int j, int n) {
    if (!in(a, 0, 7) || !in(b, 0, 7)) return BAD;
    if (rows[a] == null || rows[b] == null) return found(1);
    if (lanes[a] != lanes[b]) return found(5);
    if (outside(rows[a], i, n) || outside(rows[b], j, n)) return found(2);
    int[] ahead = rows[a].clone();
    for (int k = 0; k < n; k++) rows[b][j + k] = ahead[i + k];
    return fine(n);
  }
  int drop(int row) {
    if (!in(row, 0, 7)) return BAD;
    if (rows[row] == null) return found(1);
    int n = rows[row].length;
    rows[row] = null;
    return fine(n);
  }

  // ---- texts

  int feed(int letter) {
    if (!in(letter, 0, 255)) return BAD;
    if (tape.length() == 100) return FULL;
    tape += (char) letter;
    return tape.length();
  }
  private static final Pattern TOKEN = Pattern.compile("[a-z]|(?<![0-9])[0-9]{1,2}(?![0-9])|[,;]");
  /** What may stand at each state: a letter of this text, a number within, or a sign; by a table of states. */
  int box() {
    String text = tape;
    tape = "";
    Drum d = new Drum();
    String state = "law";
    int kind = 0, i = 0;
    while (true) {
      Matcher m = TOKEN.matcher(text);
      m.useTransparentBounds(true);
      m.region(i, text.length());
      String token = m.lookingAt() ? m.group() : "";
      int letter = token.isEmpty() ? -1 : token.charAt(0);
      int value = Character.isDigit(letter) ? Integer.parseInt(token) : -1;
      int bad = 0;
      if (i == text.length()) {
        if (state.equals("tooth")) break;
        bad = 1;
      } else if (token.isEmpty()) {
        bad = 1;
      } else if (state.equals("law")) {
        if (letter == 'm') state = "spring"; else bad = 1;
      } else if (state.equals("spring")) {
        if (value < 0) bad = 1; else { d.spring = value; state = "comma"; }
      } else if (state.equals("comma")) {
        if (letter == ',') state = "begin"; else bad = 1;
      } else if (state.equals("begin")) {
        if (value < 0) bad = 1; else if (value > 3) bad = 2; else { d.at = value; state = "end of law"; }
      } else if (state.startsWith("end of ")) {
        if (letter != ';') bad = 1; else state = state.equals("end of tooth") ? "tooth" : "column";
      } else if (state.equals("pins")) {
        if (value < 0) bad = 1; else if (value > 63) bad = 2; else { d.pins.add(value); state = "end of column"; }
      } else if (state.equals("tuned")) {
        if (value < 0) bad = 1;
        else if (value < 1 || value > 9) bad = 2;
        else {
          Tooth t = made(kind);
          t.number = d.teeth.size();
          t.tuned = value;
          d.teeth.add(t);
          state = "end of tooth";
        }
      } else if (state.equals("column") && letter == 'p') {
        if (d.pins.size() == 12) bad = 3; else state = "pins";
      } else if ((state.equals("tooth") || d.pins.size() >= 4) && value < 0 && "sdtrc".indexOf(letter) >= 0) {
        kind = " sdtrc".indexOf(letter);
        if (d.teeth.size() == 6) bad = 3; else state = "tuned";
      } else {
        bad = 1;
      }
      if (bad != 0) {
        fault = bad;
        return -1000100 - i;
      }
      i += token.length();
    }
    drum = d;
    past.clear();
    return d.teeth.size();
  }
  int fault() { return fault; }
  int undo() {
    if (past.isEmpty()) return STATE;
    drum = past.remove(past.size() - 1);
    return past.size();
  }

  // ---- what is done

  int ticks(int n) {
    if (drum == null) return STATE;
    if (!in(n, 1, 24)) return BAD;
    if (drum.tick + n > 999) return FULL;
    for (int i = 0; i < n; i++) act(Drum::tick);
    return drum.loud();
  }
  int wind(int n) {
    if (drum == null) return STATE;
    if (!in(n, 1, 99)) return BAD;
    act(d -> d.wind(n));
    return drum.spring;
  }
  int pin(int column, int tooth) {
    if (noColumn(column) || noTooth(tooth)) return BAD;
    act(d -> d.toggle(column, tooth));
    return drum.pins.get(column);
  }
  int drum(int column) {
    if (noColumn(column)) return BAD;
    if (drum.at == column) return STATE;
    int was = drum.at;
    act(d -> d.at = column);
    return was;
  }
  int mend(int tooth) {
    if (noTooth(tooth)) return BAD;
    if (!drum.teeth.get(tooth).broken) return STATE;
    int was = drum.teeth.get(tooth).plucked;
    act(d -> d.mend(tooth));
    return was;
  }
  int tooth(int tooth, int what) {
    if (noTooth(tooth) || !in(what, 0, 4)) return BAD;
    Tooth t = drum.teeth.get(tooth);
    int columns = 0;
    for (int c = 0; c < drum.pins.size(); c++) if ((drum.pins.get(c) & 1 << tooth) != 0) columns += 1 << c;
    return new int[] {t.tuned, t.rings, t.plucked, t.broken ? 1 : 0, columns}[what];
  }
  int pins(int column) { return noColumn(column) ? BAD : drum.pins.get(column); }
  int stand(int what) {
    if (drum == null) return STATE;
    if (!in(what, 0, 5)) return BAD;
    return new int[] {drum.pins.size(), drum.at, drum.spring, drum.loud(), drum.bits(t -> t.rings > 0), drum.bits(t -> t.broken)}[what];
  }

  // ---- foretold

  int ahead(int tooth, int n, int what) {
    if (noTooth(tooth) || !in(n, 0, 60) || !in(what, 0, 2)) return BAD;
    Tooth t = drum.after(n).teeth.get(tooth);
    return what == 0 ? t.rings : what == 1 ? t.plucked : t.broken ? 1 : 0;
  }
  int heard(int n, int what) {
    if (drum == null) return STATE;
    if (!in(n, 0, 60) || !in(what, 0, 3)) return BAD;
    Drum d = drum.after(n);
    return new int[] {d.loud(), d.bits(t -> t.rings > 0), d.at, d.spring}[what];
  }
  private int first(Predicate<Drum> is) {
    for (int n = 0; n <= 60; n++) if (is.test(drum.after(n))) return n;
    return NONE;
  }
  int when(int tooth, int how) {
    if (noTooth(tooth) || !in(how, 0, 1)) return BAD;
    return first(d -> how == 0 ? d.teeth.get(tooth).rings > 0 : d.teeth.get(tooth).broken);
  }
  int stops() { return drum == null ? STATE : first(d -> d.spring == 0); }
  int bestPin(int n, int what) {
    if (drum == null) return STATE;
    if (!in(n, 1, 20) || !in(what, 0, 1)) return BAD;
    List<int[]> all = new ArrayList<>();
    for (int c = 0; c < drum.pins.size(); c++) {
      for (int t = 0; t < drum.teeth.size(); t++) {
        int column = c, tooth = t;
        all.add(new int[] {10 * c + t, drum.with(d -> d.toggle(column, tooth)).loudSum(n)});
      }
    }
    return firstBest(all)[what];
  }
  private static int[] firstBest(List<int[]> all) {
    int most = all.stream().mapToInt(x -> x[1]).max().getAsInt();
    return all.stream().filter(x -> x[1] == most).findFirst().get();
  }
  int begin(int n, int what) {
    if (drum == null) return STATE;
    if (!in(n, 1, 40) || !in(what, 0, 1)) return BAD;
    List<int[]> all = new ArrayList<>();
    for (int c = 0; c < drum.pins.size(); c++) {
      int column = c;
      all.add(new int[] {c, drum.with(d -> d.at = column).loudSum(n)});
    }
    return firstBest(all)[what];
  }
  int least(int n) {
    if (drum == null) return STATE;
    if (!in(n, 1, 40)) return BAD;
    for (int s = 0; s <= 99; s++) {
      int spring = s;
      if (drum.with(d -> d.spring = spring).after(n).spring > 0) return s;
    }
    return NONE;
  }
  int tune(int row, int i, int n) {
    if (drum == null) return STATE;
    if (!in(row, 0, 7) || !in(n, 1, 12)) return BAD;
    if (rows[row] == null) return found(1);
    if (outside(rows[row], i, n)) return found(2);
    int set = 0;
    for (int c = 0; c < drum.pins.size(); c++) {
      boolean here = true;
      for (int k = 0; k < n; k++) {
        int pins = drum.pins.get((c + k) % drum.pins.size());
        int there = 0;
        for (Tooth t : drum.teeth) there += pins & 1 << t.number;
        here &= there == rows[row][i + k];
      }
      set += here ? 1 << c : 0;
    }
    return fine(set);
  }
  int sets(int v, int what) {
    if (drum == null) return STATE;
    if (!in(v, 0, 99) || !in(what, 0, 2)) return BAD;
    int many = 0, all = -1, any = 0;
    int ringing = drum.bits(t -> t.rings > 0);
    for (int s = ringing; s >= 0; s = s == 0 ? -1 : s - 1 & ringing) {
      int set = s;
      if (drum.teeth.stream().filter(t -> (set & 1 << t.number) != 0).mapToInt(t -> t.rings).sum() != v) continue;
      many++;
      all &= s;
      any |= s;
    }
    return what == 0 ? many : what == 2 ? any : many == 0 ? 0 : all;
  }
  int share(int tooth, int n) {
    if (noTooth(tooth) || !in(n, 0, 999)) return BAD;
    int all = drum.teeth.stream().filter(t -> !t.broken).mapToInt(t -> t.plucked).sum();
    if (all == 0) return 0;
    int[] gets = new int[6];
    int left = n;
    for (Tooth t : drum.teeth) {
      if (t.broken) continue;
      gets[t.number] = n * t.plucked / all;
      left -= gets[t.number];
    }
    for (Tooth t : drum.teeth) {
      if (!t.broken && t.plucked > 0 && left > 0) {
        gets[t.number]++;
        left--;
      }
    }
    return gets[tooth];
  }
  int byTurns(int n, int m) {
    if (drum == null) return STATE;
    if (!in(n, 0, 4) || !in(m, 1, 20)) return BAD;
    return turns(drum, 0, n, m);
  }
  private static int turns(Drum d, int turn, int n, int m) {
    if (turn == n) return d.after(m).loud();
    int idle = turns(d, turn + 1, n, m);
    if (turn % 2 == 0) return Math.max(idle, turns(d.with(x -> x.toggle((x.at + 1) % x.pins.size(), 0)), turn + 1, n, m));
    return Math.min(idle, turns(d.with(x -> x.wind(2)), turn + 1, n, m));
  }
  int who(int tooth, int which, int row, int i, int n) {
    if (noTooth(tooth) || !in(which, 0, 4) || !in(row, 0, 7) || !in(n, 1, 12)) return BAD;
    if (rows[row] == null) return found(1);
    if (outside(rows[row], i, n)) return found(2);
    List<Integer> told = Arrays.stream(rows[row], i, i + n).boxed().toList();
    if (which == 0) return fine(fitting(told, 1, 5, (d, k) -> d.become(tooth, k)));
    if (which == 1) return fine(fitting(told, 1, 9, (d, k) -> d.teeth.get(tooth).tuned = k));
    if (which == 2) return fine(fitting(told, 0, drum.pins.size() - 1, (d, k) -> d.at = k));
    List<Integer> springs = new ArrayList<>();
    for (int s = 0; s <= 99; s++) {
      int spring = s;
      if (drum.with(d -> d.spring = spring).louds(n).equals(told)) springs.add(s);
    }
    return fine(which == 3 ? springs.size() : springs.isEmpty() ? NONE : springs.get(0));
  }
  private interface Change { void make(Drum d, int k); }
  private int fitting(List<Integer> told, int from, int to, Change change) {
    int set = 0;
    for (int k = from; k <= to; k++) {
      int value = k;
      if (drum.with(d -> change.make(d, value)).louds(told.size()).equals(told)) set += 1 << k;
    }
    return set;
  }
  long lost(int tooth, int n, int p, int what) {
    if (noTooth(tooth) || !in(n, 0, 20) || !in(p, 0, 10) || !in(what, 0, 1)) return BAD;
    int columns = tooth(tooth, 4), pins = Integer.bitCount(columns);
    BigInteger above = BigInteger.ZERO, below = BigInteger.TEN.pow(pins);
    for (int s = columns; s >= 0; s = s == 0 ? -1 : s - 1 & columns) {
      int gone = s;
      Drum d = drum.with(x -> { for (int c = 0; c < 12; c++) if ((gone & 1 << c) != 0) x.toggle(c, tooth); });
      if (d.after(n).teeth.get(tooth).rings == 0) continue;
      int many = Integer.bitCount(gone);
      above = above.add(BigInteger.valueOf(p).pow(many).multiply(BigInteger.valueOf(10 - p).pow(pins - many)));
    }
    BigInteger common = above.gcd(below);
    return (what == 0 ? above : below).divide(common).longValueExact();
  }
  int drawn(int n, int seed, int what) {
    if (drum == null) return STATE;
    if (!in(n, 0, 60) || !in(seed, 1, 999999) || !in(what, 0, 1)) return BAD;
    Drum d = drum.twin();
    d.plucks = 0;
    BigInteger big = BigInteger.valueOf(seed);
    int loud = 0;
    for (int i = 0; i < n; i++) {
      big = big.multiply(BigInteger.valueOf(16807)).mod(BigInteger.valueOf(2147483647));
      int x = big.intValueExact();
      if (d.spring == 0) d.spring = x % 30;
      else if (x % 3 == 0) d.pins.set(x % d.pins.size(), x % 64);
      if (d.teeth.get(x % d.teeth.size()).broken) d.mend(x % d.teeth.size());
      d.tick();
      loud += d.loud();
    }
    return what == 0 ? d.plucks : loud;
  }
  int image(int k) {
    if (!in(k, 0, 1)) return BAD;
    if (drum == null) return STATE;
    images[k] = drum.twin();
    return 1;
  }
  int restore(int k) {
    if (!in(k, 0, 1)) return BAD;
    if (images[k] == null) return STATE;
    drum = images[k].twin();
    past.clear();
    return 1;
  }

  // ---- asked

  int kind(int one) { return noTooth(one) ? BAD : KINDS.indexOf(drum.teeth.get(one).getClass()); }
  int as(int one, int kind) {
    if (noTooth(one) || !in(kind, 0, 5)) return BAD;
    return KINDS.get(kind).isInstance(drum.teeth.get(one)) ? fine(one) : found(3);
  }
  int ask(int one, int what) {
    if (noTooth(one) || !in(what, 0, 1)) return BAD;
    Tooth t = drum.teeth.get(one);
    t.trace = new ArrayList<>();
    ToIntFunction<Tooth> asked = what == 0 ? Tooth::size : Tooth::mark;
    int answer = asked.applyAsInt(t);
    trace = t.trace;
    return answer;
  }
  int trace(int i) { return in(i, 0, trace.size() - 1) ? trace.get(i) : NONE; }
  int count(int what) {
    int there = 0;
    for (int[] r : rows) there += r == null ? 0 : 1;
    switch (what) {
      case 0: return there;
      case 1: return drum == null ? 0 : drum.teeth.size();
      case 2: return drum == null ? 0 : drum.pins.size();
      case 3: return drum == null ? 0 : drum.tick;
      case 4: return drum == null ? 0 : drum.spring;
      case 5: return drum == null ? 0 : drum.teeth.stream().mapToInt(t -> t.plucked).sum();
      case 6: return past.size();
      case 7: return tape.length();
      default: return BAD;
    }
  }
  int status() { return status; }
}
