import java.util.ArrayList;
import java.util.List;

/** All that can be seen of an object by some 260 calls; to see it all the object is used up. */
final class Look {
  private final MusicBox x;
  private final List<String> seen = new ArrayList<>();

  private Look(MusicBox x) {
    this.x = x;
  }

  /** Everything but status(), answer by answer. */
  static List<String> at(MusicBox x) {
    Look look = new Look(x);
    look.counts();
    look.trace();
    look.standing();
    look.rows();
    look.past();
    look.images();
    look.tape();
    return look.seen;
  }

  private void see(String what, long answer) {
    seen.add(what + " = " + answer);
  }

  private void counts() {
    for (int what = 0; what < 8; what++) {
      see("count(" + what + ")", x.count(what));
    }
    see("fault()", x.fault());
  }

  private void trace() {
    for (int i = 0; i < 8; i++) {
      see("trace(" + i + ")", x.trace(i));
    }
  }

  private void standing() {
    for (int what = 0; what < 6; what++) {
      see("stand(" + what + ")", x.stand(what));
    }
    int teeth = x.count(1), columns = x.count(2);
    for (int t = 0; t < teeth; t++) {
      for (int what = 0; what < 5; what++) {
        see("tooth(" + t + ", " + what + ")", x.tooth(t, what));
      }
      see("kind(" + t + ")", x.kind(t));
    }
    for (int column = 0; column < columns; column++) {
      see("pins(" + column + ")", x.pins(column));
    }
  }

  /** Items by the columns in which they stand, lanes by what is left of a great number. */
  private void rows() {
    for (int r = 0; r < 8; r++) {
      for (int i = 0; i < 4; i++) {
        see("tune(" + r + ", " + i + ", 1)", x.tune(r, i, 1));
      }
      see("set(" + r + ", 0, 99999)", x.set(r, 0, 99999));
      see("drop(" + r + ")", x.drop(r));
    }
  }

  private void past() {
    for (int i = 0; i < 25; i++) {
      see("undo()", x.undo());
      see("stand(1)", x.stand(1));
      see("stand(2)", x.stand(2));
      see("stand(3)", x.stand(3));
      see("stand(5)", x.stand(5));
    }
  }

  private void images() {
    for (int k = 0; k < 2; k++) {
      see("restore(" + k + ")", x.restore(k));
      standing();
    }
  }

  /** What is on the tape shows when it is read, with an end that makes a box of "m9". */
  private void tape() {
    for (char letter : ",3;p1;p2;p3;p4;s1;".toCharArray()) {
      see("feed(" + letter + ")", x.feed(letter));
    }
    see("box()", x.box());
    see("fault()", x.fault());
    standing();
  }
}
