import java.lang.reflect.InvocationTargetException;
import java.util.NoSuchElementException;

/** What the tests of the document share: how an answer is looked at, and squares that are laid out. */
abstract class Checks {
  static final Class<?> INDEX = IndexOutOfBoundsException.class;
  static final Class<?> ARGUMENT = IllegalArgumentException.class;
  static final Class<?> UNSUPPORTED = UnsupportedOperationException.class;
  static final Class<?> STATE = IllegalStateException.class;
  static final Class<?> ELEMENT = NoSuchElementException.class;
  static final Class<?> ARITHMETIC = ArithmeticException.class;

  static final int[] LINES = {-3, -1, 0, -1, -1, 0, 1, -1, 0, 3, -1, 0, 3, 1, 2, 1, 1, 2, -1, 1, 2, -3, 1, 2};
  static final int[] WAVES = {-3, -1, 0, -1, -1, 2, 1, -1, 0, 3, -1, 2, 3, 1, 2, 1, 1, 0, -1, 1, 2, -3, 1, 0};
  static final int[] COLUMNS = {-1, -3, 0, -1, -1, 0, -1, 1, 0, -1, 3, 0, 1, 3, 2, 1, 1, 2, 1, -1, 2, 1, -3, 2};

  static int wrong = 0;
  static int looked = 0;
  static String where = "";
  static Callerhall h;

  interface Call {
    Object run();
  }

  static void is(Object got, Object want) {
    looked++;
    if (!got.equals(want)) {
      fault(got, want);
    }
  }

  static void fails(Class<?> due, Call call) {
    looked++;
    Object got = answer(call);
    if (got != due) {
      fault(got, due);
    }
  }

  /** What a call answers, or the class of what it throws. */
  static Object answer(Call call) {
    try {
      return call.run();
    } catch (RuntimeException e) {
      return e.getClass();
    }
  }

  private static void fault(Object got, Object want) {
    wrong++;
    StringBuilder lines = new StringBuilder();
    for (StackTraceElement frame : Thread.currentThread().getStackTrace()) {
      if (frame.getFileName() != null && frame.getFileName().endsWith("Tests.java")) {
        lines.append(lines.length() == 0 ? "line " : " of ").append(frame.getLineNumber());
      }
    }
    System.out.println(where + ", " + lines + ": answered " + got + ", due is " + want);
  }

  /** Runs a test of a class on a new square. */
  static void run(Class<?> tests, String name) throws ReflectiveOperationException {
    where = name;
    h = new Callerhall();
    try {
      tests.getDeclaredMethod(name).invoke(null);
    } catch (InvocationTargetException e) {
      wrong++;
      System.out.println(name + " threw:");
      e.getCause().printStackTrace(System.out);
    }
  }

  static void end(String whenKept) {
    System.out.println(wrong == 0 ? whenKept : wrong + " of " + looked + " answers are not as due");
    if (wrong != 0 || looked == 0) {
      System.exit(1);
    }
  }

  /** The dance of a whole call cannot be, for a reason and, if not -1, by a body. */
  static void refused(char why, int whom, char call, char who, char concept) {
    fails(UNSUPPORTED, () -> h.dance(call, who, concept, 1, 1));
    reasonIs(why, whom);
  }

  static void reasonIs(char why, int whom) {
    is(h.why(), why);
    if (whom < 0) {
      fails(ELEMENT, () -> h.whom());
    } else {
      is(h.whom(), whom);
    }
  }

  static int whole(char call, char who, char concept) {
    return h.dance(call, who, concept, 1, 1);
  }

  static String at(int dancer) {
    return h.x(dancer) + " " + h.y(dancer) + " " + h.facing(dancer);
  }

  /** Where the first dancers are. */
  static String first(int count) {
    StringBuilder text = new StringBuilder();
    for (int i = 0; i < count; i++) {
      text.append(i > 0 ? ", " : "").append(at(i));
    }
    return text.toString();
  }

  static String all() {
    return first(8);
  }

  /** A new square in which the first dancers are at the places told, the others far away and of skill 0. */
  static void lay(int... places) {
    h = new Callerhall();
    for (int i = 0; i < 8; i++) {
      h.put(i, 9, 9 - i, 0);
      h.skill(i, 3 * i < places.length ? 3 : 0);
    }
    for (int i = 0; 3 * i < places.length; i++) {
      h.put(i, places[3 * i], places[3 * i + 1], places[3 * i + 2]);
    }
  }
}
