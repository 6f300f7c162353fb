import java.lang.reflect.InvocationTargetException;
import java.lang.reflect.Method;
import java.lang.reflect.Modifier;
import java.util.Arrays;

/** Every call with edges of all numbers, in several states: the machine never throws. */
public final class NeverThrowsTest {
  private static final int[] NUMBERS = {Integer.MIN_VALUE, -1, 0, 1, 5, 12, 40, 60, 999999, Integer.MAX_VALUE};
  private static final String[] TEXTS = {
    "", "m0,0;p0;p0;p0;p0;c1;", "m99,3;p63;p63;p63;p63;p63;p63;p63;p63;p63;p63;p63;p63;t9;t9;t9;c9;r9;t9;",
  };
  private static final Checks CHECKS = new Checks();

  public static void main(String[] args) throws IllegalAccessException {
    for (String text : TEXTS) {
      for (Method call : MusicBox.class.getDeclaredMethods()) {
        if (Modifier.isPublic(call.getModifiers())) {
          everyWay(text, call);
        }
      }
    }
    CHECKS.end();
  }

  private static MusicBox prepared(String text) {
    MusicBox x = new MusicBox();
    Checks.read(x, text);
    x.row(0, 0, 0);
    x.row(1, 1, 12);
    x.row(5, 2, 40);
    x.ticks(5);
    x.image(1);
    return x;
  }

  private static void everyWay(String text, Method call) throws IllegalAccessException {
    int places = call.getParameterCount();
    int ways = (int) Math.round(Math.pow(NUMBERS.length, places));
    int step = ways > 20000 ? 7 : 1;
    MusicBox x = prepared(text);
    for (int way = 0; way < ways; way += step) {
      if (way % 400 == 0) {
        x = prepared(text);
      }
      Object[] numbers = new Object[places];
      for (int i = 0, rest = way; i < places; i++, rest /= NUMBERS.length) {
        numbers[i] = NUMBERS[rest % NUMBERS.length];
      }
      CHECKS.holds(call.getName() + Arrays.toString(numbers) + " on " + text, answers(x, call, numbers));
    }
  }

  private static boolean answers(MusicBox x, Method call, Object[] numbers) throws IllegalAccessException {
    try {
      return call.invoke(x, numbers) != null;
    } catch (InvocationTargetException e) {
      System.out.println(e.getCause());
      return false;
    }
  }
}
