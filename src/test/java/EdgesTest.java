/**
 * Each sentence of the document that names a boundary case (too small, too large, empty, full, a wrap-around, a refused
 * call), quoted word by word, with answers that are due by it.
 */
public final class EdgesTest {
  private static final int PROMISES = 39;

  public static void main(String[] args) {
    Checks c = new Checks();
    new RangeEdges(c).all();
    new RefusalEdges(c).all();
    new TextEdges(c).all();
    new TickEdges(c).all();
    new ForetoldEdges(c).all();
    c.end();
    everyPromiseIsQuoted();
  }

  private static void everyPromiseIsQuoted() {
    Checks c = new Checks();
    for (int promise = 1; promise <= PROMISES; promise++) {
      c.holds("a test quotes promise " + promise, Doc.wasQuoted(promise));
    }
    c.holds("every word of the promises is quoted, but for: " + Doc.unquoted(), Doc.unquoted().isEmpty());
    c.end();
  }
}
