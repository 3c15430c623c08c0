import java.lang.reflect.InvocationTargetException;
import java.lang.reflect.Method;
import java.lang.reflect.Modifier;
import java.util.ArrayList;
import java.util.Arrays;
import java.util.Comparator;
import java.util.List;

/** Whether any arguments in any state end in an answer, or in an exception that the document names and a throw made. */
public final class ThrowTests {
  private static final int[] NUMBERS = {Integer.MIN_VALUE, -2000, -10, -9, -2, -1, 0, 0, 1, 1, 2, 2, 3, 4, 5, 7, 8, 9, 12, 16,
      17, 30, 99, 128, 1900, 1990, 2000, 2100, 2101, Integer.MAX_VALUE};
  private static final String SIGNS = "uqpbgfhctwxroahslrceaaaaaa-XYOPTC------ABCDEFGHslkwvet\0z~";
  private static long seed = 7;

  private static int pick(int bound) {
    seed = seed * 6364136223846793005L + 1442695040888963407L;
    return (int) ((seed >>> 33) % bound);
  }

  private static Object argument(Class<?> type) {
    if (type == boolean.class) {
      return pick(2) == 0;
    }
    if (type == char.class) {
      return pick(200) == 0 ? (char) pick(65536) : SIGNS.charAt(pick(SIGNS.length()));
    }
    return pick(3) == 0 ? NUMBERS[pick(NUMBERS.length)] : pick(9);
  }

  public static void main(String[] args) throws Exception {
    List<Method> face = new ArrayList<>();
    for (Method method : Callerhall.class.getDeclaredMethods()) {
      if (Modifier.isPublic(method.getModifiers())) {
        face.add(method);
      }
    }
    face.sort(Comparator.comparing(Method::getName));
    int wrong = 0;
    for (int run = 0; run < 1500 && wrong < 10; run++) {
      Callerhall hall = new Callerhall();
      for (int i = 0; i < 512; i++) {
        Method method = face.get(pick(face.size()));
        if (pick(3) == 0) {
          method = Callerhall.class.getMethod("dance", char.class, char.class, char.class, int.class, int.class);
        }
        Object[] values = new Object[method.getParameterCount()];
        for (int k = 0; k < values.length; k++) {
          values[k] = argument(method.getParameterTypes()[k]);
        }
        try {
          method.invoke(hall, values);
        } catch (InvocationTargetException e) {
          Throwable thrown = e.getCause();
          boolean isNamed = Arrays.asList(method.getExceptionTypes()).contains(thrown.getClass());
          boolean isMade = thrown.getStackTrace()[0].getClassName().equals("Callerhall") && thrown.getMessage() == null;
          if (!isNamed || !isMade) {
            wrong++;
            System.out.println("run " + run + ": " + method.getName() + Arrays.toString(values) + " threw " + thrown);
          }
        }
      }
    }
    System.out.println(wrong == 0 ? "no call throws but as the document says" : "calls throw what they must not");
    if (wrong != 0) {
      System.exit(1);
    }
  }
}
