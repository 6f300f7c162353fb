import java.lang.reflect.InvocationTargetException;
import java.lang.reflect.Method;
import java.lang.reflect.Modifier;
import java.util.ArrayList;
import java.util.Arrays;
import java.util.Comparator;
import java.util.List;
import java.util.Random;

/** Runs of drawn calls (fewer than 512 of an object), each answer held against that of PlainBox. */
public final class AgreementTest {
  private static final int RUNS = 3000, PARTS = 2;
  private static final String SORTS = "sdtrc";

  private final Checks checks = new Checks();
  private final List<Method> calls = new ArrayList<>();
  private final List<Method> plain = new ArrayList<>();
  private Random random;
  private MusicBox x;
  private PlainBox y;
  private List<String> said;

  public static void main(String[] args) throws ReflectiveOperationException {
    AgreementTest test = new AgreementTest();
    test.findCalls();
    for (int run = 0; run < RUNS && test.checks.wrong() == 0; run++) {
      test.run(run);
    }
    test.checks.end();
  }

  private void findCalls() throws ReflectiveOperationException {
    for (Method m : MusicBox.class.getDeclaredMethods()) {
      if (Modifier.isPublic(m.getModifiers())) {
        calls.add(m);
      }
    }
    calls.sort(Comparator.comparing(Method::getName));
    for (Method m : calls) {
      plain.add(PlainBox.class.getDeclaredMethod(m.getName(), m.getParameterTypes()));
    }
  }

  private void run(int seed) throws ReflectiveOperationException {
    random = new Random(seed);
    x = new MusicBox();
    y = new PlainBox();
    said = new ArrayList<>();
    if (random.nextInt(10) == 0) {
      drawnCalls(30);
    }
    for (int part = 0; part < PARTS; part++) {
      readText();
      if (random.nextBoolean()) {
        hearIntoRow();
      }
      drawnCalls(80);
    }
  }

  private void readText() {
    String text = random.nextInt(3) == 0 ? spoilt(text()) : text();
    for (char letter : text.toCharArray()) {
      due("feed(" + (int) letter + ")", x.feed(letter), y.feed(letter));
    }
    due("box() of " + text, x.box(), y.box());
    due("fault()", x.fault(), y.fault());
  }

  private String text() {
    StringBuilder text = new StringBuilder("m");
    text.append(random.nextInt(4) == 0 ? random.nextInt(4) : random.nextInt(100)).append(',').append(random.nextInt(4)).append(';');
    int columns = random.nextInt(20) == 0 ? random.nextInt(15) : 4 + random.nextInt(9);
    boolean dense = random.nextBoolean();
    for (int c = 0; c < columns; c++) {
      text.append('p').append(dense ? random.nextInt(64) : random.nextInt(64) & random.nextInt(64)).append(';');
    }
    int teeth = random.nextInt(20) == 0 ? random.nextInt(9) : 1 + random.nextInt(6);
    for (int t = 0; t < teeth; t++) {
      text.append(SORTS.charAt(random.nextInt(5))).append(1 + random.nextInt(9)).append(';');
    }
    return text.toString();
  }

  private String spoilt(String text) {
    StringBuilder spoilt = new StringBuilder(text);
    String bytes = "mpsdtrcxz0123456789,; A\u00e9";
    for (int i = 0; i <= random.nextInt(2); i++) {
      int at = random.nextInt(spoilt.length());
      char letter = bytes.charAt(random.nextInt(bytes.length()));
      switch (random.nextInt(4)) {
        case 0: spoilt.setCharAt(at, letter); break;
        case 1: spoilt.insert(at, letter); break;
        case 2: spoilt.deleteCharAt(at); break;
        default: spoilt.setLength(Math.max(1, at)); break;
      }
    }
    return spoilt.toString();
  }

  /** A row that tells what is to be heard, or the pins that stand, so that something fits. */
  private void hearIntoRow() {
    int row = random.nextInt(3);
    int n = 1 + random.nextInt(12);
    due("row", x.row(row, 2, n), y.row(row, 2, n));
    boolean pins = random.nextBoolean();
    for (int i = 0; i < n; i++) {
      int v = pins ? x.pins(i % Math.max(1, x.count(2))) & (1 << x.count(1)) - 1 : x.heard(i + 1, 0);
      due("set", x.set(row, i, v), y.set(row, i, v));
    }
    for (int which = 0; which < 5; which++) {
      int many = random.nextInt(n) + 1;
      due("who", x.who(0, which, row, 0, many), y.who(0, which, row, 0, many));
    }
    due("tune", x.tune(row, 0, n), y.tune(row, 0, n));
  }

  private void drawnCalls(int n) throws ReflectiveOperationException {
    for (int i = 0; i < n; i++) {
      int k = random.nextInt(calls.size());
      Method call = calls.get(k);
      if (call.getName().equals("box") && random.nextInt(8) != 0) {
        continue;
      }
      if (call.getName().equals("lost") && random.nextInt(4) != 0) {
        continue;
      }
      Object[] numbers = new Object[call.getParameterCount()];
      for (int a = 0; a < numbers.length; a++) {
        numbers[a] = number(call.getName(), a);
      }
      String told = call.getName() + Arrays.toString(numbers);
      due(told, answer(call, x, numbers), answer(plain.get(k), y, numbers));
    }
  }

  private int number(String call, int place) {
    if (random.nextInt(100) == 0) {
      int[] far = {Integer.MIN_VALUE, Integer.MAX_VALUE, -1, 64, 100, 1000, 1000000};
      return far[random.nextInt(far.length)];
    }
    if (call.equals("feed")) return random.nextInt(128);
    if (call.equals("drawn") && place == 1) return 1 + random.nextInt(999999);
    if (call.equals("set") && place == 2) return random.nextBoolean() ? random.nextInt(64) : random.nextInt();
    if (call.equals("row") && place == 2) return random.nextInt(44) - 2;
    if (call.equals("share") && place == 1) return random.nextInt(1000);
    if (call.equals("sets") && place == 0) return random.nextInt(40);
    if (call.equals("ticks") || call.equals("wind") || call.equals("least")) return random.nextInt(27);
    if (place == 0 && List.of("bestPin", "begin", "heard").contains(call)) return random.nextInt(62);
    if (place == 1 && List.of("ahead", "lost", "byTurns").contains(call)) return random.nextInt(22);
    if (call.equals("lost") && place == 2) return random.nextInt(11);
    return random.nextInt(8) == 0 ? random.nextInt(13) : random.nextInt(4);
  }

  private static long answer(Method call, Object on, Object[] numbers) throws ReflectiveOperationException {
    try {
      return ((Number) call.invoke(on, numbers)).longValue();
    } catch (InvocationTargetException e) {
      throw new IllegalStateException(call.getName() + Arrays.toString(numbers), e.getCause());
    }
  }

  private void due(String call, long got, long want) {
    said.add(call + " = " + want);
    checks.due(call, got, want);
    if (got != want) {
      System.out.println("behind " + said.subList(Math.max(0, said.size() - 40), said.size()));
    }
  }
}
